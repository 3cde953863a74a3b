/**
 * Of every number that a call takes, the least and the most are taken; the next on either side, and the
 * least and the most of all ints, are refused by the answer that the document tells, and change nothing.
 */
public final class BoundsTest {
    private static final Due due = new Due();
    private static final Still still = new Still(due);
    private static final int FIGURE = -1000, PAY = -100;
    private static final int LAST_TOP = 9, LAST_PLACE = 2, LAST_ROW = 1, LAST_COLUMN = 2;

    public static void main(String[] args) {
        tops();
        bowl();
        bouts();
        choices();
        boutsThatWere();
        gamesAndMeetings();
        pairings();
        sheets();
        due.end();
    }

    /** Number k of a call, which else is as told by its text, may be least to most. */
    private static void bounds(String call, int k, int least, int most, int refusal) {
        for (int v : new int[] {least, most}) taken(with(call, k, v), refusal);
        for (int v : new int[] {least - 1, most + 1, Due.LEAST, Integer.MAX_VALUE}) refused(with(call, k, v), refusal);
    }

    private static String with(String call, int k, int v) {
        String[] words = call.split(" ");
        words[1 + k] = Integer.toString(v);
        return String.join(" ", words);
    }

    private static void taken(String call, int refusal) {
        TopYard yard = new TopYard();
        Face.calls(yard, Yards.busy());
        long got = Face.call(yard, call);
        // Where BAD is -2, all answers but refusals are NONE or more.
        boolean fine = refusal == Due.BAD ? got >= Due.NONE : got != refusal;
        due.is(Face.promise(call), call + ", taken", fine ? 1 : got, 1);
        due.is(Face.promise(call), "no finding of " + call, yard.count(8), 5);
    }

    private static void refused(String call, int refusal) {
        still.keeps(Yards.busy(), call, refusal, 0);
    }

    private static void tops() {
        bounds("turn 5 0", 0, 0, 35, FIGURE);
        bounds("turn 5 0", 1, 0, 1, FIGURE);
        bounds("top 9 3 2 1 4", 0, 1, 50, Due.BAD);
        bounds("top 9 3 2 1 4", 1, 1, 12, Due.BAD);
        bounds("top 9 3 2 1 4", 2, 1, 9, Due.BAD);
        bounds("top 9 3 2 1 4", 3, -1, 1, Due.BAD);
        refused("top 9 3 2 0 4", Due.BAD);
        bounds("top 9 3 2 1 4", 4, 0, 7, Due.BAD);
        bounds("about 4 0", 0, 0, LAST_TOP, FIGURE);
        bounds("about 4 0", 1, 0, 5, FIGURE);
        bounds("wear 4 1", 0, 0, LAST_TOP, Due.BAD);
        bounds("wear 4 1", 1, 0, 9, Due.BAD);
        bounds("give 4 1", 0, 0, LAST_TOP, Due.BAD);
        bounds("give 4 1", 1, 0, 7, Due.BAD);
        bounds("string 4 50", 0, 0, 7, Due.BAD);
        bounds("string 4 50", 1, 0, 200, Due.BAD);
    }

    private static void bowl() {
        bounds("bowl 0 12", 0, 0, 1, Due.BAD);
        bounds("bowl 0 12", 1, 5, 30, Due.BAD);
        bounds("bowl 1 12", 1, 0, 30, Due.BAD);
        bounds("dent 1 2 3", 0, -31, 31, Due.BAD);
        bounds("dent 1 2 3", 1, -31, 31, Due.BAD);
        bounds("dent 1 2 3", 2, -20, 20, Due.BAD);
        for (int what = 0; what < 3; what++) {
            bounds("height 1 2 " + what, 0, -32, 32, Due.LEAST);
            bounds("height 1 2 " + what, 1, -32, 32, Due.LEAST);
        }
        bounds("height 1 2 0", 2, 0, 2, Due.LEAST);
    }

    private static void bouts() {
        // TOPS 2, 3, 4 are in the BOUT.
        bounds("enter 5 1 2 3 4", 0, 0, LAST_TOP, Due.BAD);
        for (int t = 2; t <= 4; t++) refused("enter " + t + " 1 2 3 4", Due.BAD);
        bounds("enter 5 1 2 3 4", 1, -30, 30, Due.BAD);
        bounds("enter 5 1 2 3 4", 2, -30, 30, Due.BAD);
        bounds("enter 5 1 2 3 4", 3, 0, 35, Due.BAD);
        bounds("enter 5 1 2 3 4", 4, 1, 60, Due.BAD);
        bounds("whip 1 2 3", 0, 0, 3, Due.BAD);
        bounds("whip 1 2 3", 1, 1, 400, Due.BAD);
        bounds("whip 1 2 3", 2, 1, 100, Due.BAD);
        bounds("knocks 0", 0, 0, 1, Due.BAD);
        bounds("state 1 2 3", 0, 0, LAST_PLACE, Due.LEAST);
        bounds("state 1 2 3", 1, 0, 400, Due.LEAST);
        bounds("state 1 2 3", 2, 0, 7, Due.LEAST);
    }

    private static void choices() {
        bounds("among 0 5", 0, 0, 1, Due.BAD);
        bounds("among 0 5", 1, 0, LAST_TOP, Due.BAD);
        bounds("among 1 5", 1, 0, LAST_TOP, Due.BAD);
        bounds("pay 0 1 2", 0, 0, LAST_ROW, PAY);
        bounds("pay 0 1 2", 1, 0, LAST_COLUMN, PAY);
        bounds("pay 0 1 2", 2, -9, 9, PAY);
        bounds("pays 0 1", 0, 0, LAST_ROW, PAY);
        bounds("pays 0 1", 1, 0, LAST_COLUMN, PAY);
        bounds("mix 0 1", 0, 0, 1, Due.BAD);
        bounds("mix 0 1", 1, 0, LAST_ROW, Due.BAD);
        bounds("mix 1 1", 1, 0, LAST_COLUMN, Due.BAD);
        bounds("expected 4 5", 0, 0, LAST_TOP, PAY);
        bounds("expected 4 5", 1, 0, LAST_TOP, PAY);
        bounds("expected 4 4", 0, 0, LAST_TOP, PAY);
    }

    private static void boutsThatWere() {
        bounds("was 4 5 1", 0, 0, LAST_TOP, Due.BAD);
        bounds("was 4 5 1", 1, 0, LAST_TOP, Due.BAD);
        bounds("was 4 5 1", 2, -1, 2, Due.BAD);
        for (int t = 0; t <= LAST_TOP; t++) refused("was " + t + " " + t + " 1", Due.BAD);
        bounds("read 1", 0, 0, 3, Due.BAD);
        bounds("worn 0 0", 0, 0, LAST_TOP, Due.BAD);
        bounds("worn 0 0", 1, 0, 2, Due.BAD);
        bounds("explained 0 0", 0, 0, LAST_TOP, Due.BAD);
        bounds("explained 0 0", 1, 0, 1, Due.BAD);
    }

    private static void gamesAndMeetings() {
        bounds("type 59", 0, 0, 255, Due.BAD);
        bounds("play 3 4", 0, 0, 7, Due.BAD);
        bounds("play 3 4", 1, 0, 7, Due.BAD);
        bounds("played 0", 0, 0, 3, Due.BAD);
        bounds("met 3 4", 0, 0, 7, Due.BAD);
        bounds("met 3 4", 1, 0, 7, Due.BAD);
        for (int p = 0; p < 8; p++) {
            refused("play " + p + " " + p, Due.BAD);
            refused("met " + p + " " + p, Due.BAD);
        }
        bounds("bag 0 50 0", 0, 0, 7, Due.BAD);
        bounds("bag 0 50 0", 1, 1, 500, Due.BAD);
        bounds("bag 0 50 0", 2, 0, 2, Due.BAD);
    }

    /** All sets, with all OWNERS: those of an even number, not none, with the OWNER in them. */
    private static void pairings() {
        bounds("pairing 255 3", 1, 0, 7, Due.BAD);
        TopYard yard = new TopYard();
        int calls = 0;
        for (int set = -1; set <= 256; set++) {
            for (int owner = -1; owner <= 8; owner++) {
                if (calls++ % 500 == 0) yard = new TopYard();
                boolean fine = set > 0 && set < 256 && Integer.bitCount(set) % 2 == 0 && owner >= 0 && owner < 8
                    && (set >> owner & 1) == 1;
                int got = yard.pairing(set, owner);
                boolean mate = got >= 0 && got < 8 && got != owner && (set >> got & 1) == 1;
                due.is(39, "pairing(" + set + ", " + owner + ") is " + got, (fine ? mate : got == Due.BAD) ? 1 : 0, 1);
            }
        }
        for (int set : new int[] {0, 1, 128, 7, 254, 127, 256, 257, 259, 511, -1, -2, Due.LEAST, Integer.MAX_VALUE}) {
            refused("pairing " + set + " 0", Due.BAD);
        }
        refused("pairing 254 0", Due.BAD);
        refused("pairing 126 0", Due.BAD);
        refused("pairing 126 7", Due.BAD);
        refused("pairing 3 33", Due.BAD);
    }

    private static void sheets() {
        bounds("sheet 1 0 5", 0, 0, 3, Due.BAD);
        bounds("sheet 1 0 5", 1, 0, 2, Due.BAD);
        for (int n : new int[] {0, 120}) taken("sheet 1 0 " + n, Due.BAD);
        for (int n : new int[] {121, Integer.MAX_VALUE}) refused("sheet 1 0 " + n, Due.BAD);
        bounds("lose 1", 0, 0, 3, Due.BAD);
        for (int s : new int[] {-1, 4, Due.LEAST, Integer.MAX_VALUE}) {
            refused("put " + s + " 0 0 1", Due.BAD);
            refused("get " + s + " 0 0", Due.LEAST);
            refused("copy " + s + " 0 0 0 1", Due.BAD);
            refused("copy 0 0 " + s + " 0 1", Due.BAD);
        }
        for (int form : new int[] {-1, 3, Due.LEAST, Integer.MAX_VALUE}) {
            refused("put 0 " + form + " 0 1", Due.BAD);
            refused("get 0 " + form + " 0", Due.LEAST);
        }
        for (String call : new String[] {"put 0 0 0 1", "put 3 0 29 1", "put 2 2 8 1", "put 1 1 0 2147483647",
            "put 1 1 0 -2147483648"}) {
            taken(call, Due.BAD);
        }
        for (String call : new String[] {"get 0 0 0", "get 3 0 29", "get 1 1 19"}) taken(call, Due.LEAST);
        for (String call : new String[] {"copy 0 0 3 0 12", "copy 3 18 0 0 12", "copy 0 0 0 0 0"}) taken(call, Due.BAD);
        bounds("write 1 5", 0, 0, 3, Due.BAD);
        bounds("write 1 5", 1, 0, 400, Due.BAD);
        bounds("count 3", 0, 0, 10, Due.BAD);
    }
}
