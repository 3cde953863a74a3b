/**
 * Each refusal where nothing is there, where there is no room, or where several refusals fit: the answer
 * is the first that the document tells, and nothing changes but, with a FINDING, count() 8.
 */
public final class RefusalsTest {
    private static final Due due = new Due();
    private static final Still still = new Still(due);
    private static final int NULL = 1, INDEX = 2, CAST = 3, STORE = 4, SIZE = 5;
    private static final String BUSY = Yards.busy(), FULL = Yards.full();
    private static final String PAIR = "top 8 4 2 1 0; top 8 6 3 1 1; ";

    public static void main(String[] args) {
        nothingThere();
        tooFewInTheBout();
        halfAChoice();
        noRoom();
        roomAgain();
        notPlayed();
        lostSheets();
        otherForms();
        noSuchItems();
        sizes();
        latestFinding();
        questionsChangeNothing();
        due.end();
    }

    private static void refused(String made, String call, int answer) {
        still.keeps(made, call, answer, 0);
    }

    private static void found(String made, String call, int finding) {
        still.keeps(made, call, call.startsWith("get") ? Due.LEAST : -10 - finding, finding);
    }

    private static void nothingThere() {
        for (String call : new String[] {"wear 0 0", "give 0 0", "enter 0 0 0 0 1", "among 0 0", "among 1 0", "mix 0 0", "mix 1 0",
            "was 0 1 1", "worn 0 0", "explained 0 0", "pairing 0 0"}) {
            refused("", call, Due.BAD);
        }
        refused("", "about 0 0", -1000);
        for (String call : new String[] {"run", "winner", "knocks 0", "knocks 1", "fill", "play 0 1"}) refused("", call, Due.NOT);
        for (String call : new String[] {"state 0 0 0", "value"}) refused("", call, Due.LEAST);
        for (String call : new String[] {"pay 0 0 0", "pays 0 0", "expected 0 0", "expected 0 1"}) refused("", call, -100);
        for (int s = 0; s < 4; s++) {
            found("", "lose " + s, NULL);
            found("", "get " + s + " 0 0", NULL);
        }
        // Nothing is no refusal for these.
        for (String call : new String[] {"smooth", "clear", "choose", "forget", "wipe", "fault", "played 0", "met 0 1", "bag 0 1 0",
            "bag 7 500 1", "count 0", "count 8", "height 0 0 0"}) {
            still.keeps("", call, 0, 0);
        }
        still.keeps("", "most", Due.NONE, 0);
        still.keeps(PAIR, "most", Due.NONE, 0);
    }

    private static void tooFewInTheBout() {
        String one = PAIR + "enter 1 0 0 0 9; whip 0 1 5; sheet 0 1 9; ";
        for (String made : new String[] {PAIR + "sheet 0 1 9; ", one}) {
            refused(made, "run", Due.NOT);
            refused(made, "winner", Due.NOT);
            refused(made, "knocks 0", Due.NOT);
            refused(made, "knocks 1", Due.NOT);
            refused(made, "knocks 2", Due.BAD);
            refused(made, "knocks -1", Due.BAD);
            refused(made, "state 0 0 0", Due.LEAST);
            refused(made, "write 0 0", Due.NOT);
            refused(made, "write 0 400", Due.NOT);
            refused(made, "write 0 401", Due.BAD);
            refused(made, "write 4 0", Due.BAD);
            found(made, "write 1 0", NULL);
            refused(made, "write 1 -1", Due.BAD);
        }
        TopYard yard = new TopYard();
        Face.calls(yard, one + "enter 0 3 3 9 9");
        due.is(15, "run() of two", yard.run() > 0 ? 1 : 0, 1);
        due.is(46, "write(0, 0) of two", yard.write(0, 0), 9);
    }

    private static void halfAChoice() {
        for (int side = 0; side < 2; side++) {
            String half = PAIR + "among " + side + " 0; ";
            refused(half, "fill", Due.NOT);
            refused(half, "value", Due.LEAST);
            refused(half, "mix " + side + " 0", Due.NOT);
            refused(half, "mix " + side + " 1", Due.BAD);
            refused(half, "mix " + (1 - side) + " 0", Due.BAD);
            refused(half, "mix 2 0", Due.BAD);
            refused(half, "pay 0 0 1", -100);
            refused(half, "pays 0 0", -100);
        }
    }

    private static void noRoom() {
        refused(FULL, "top 5 5 5 1 5", Due.FULL);
        refused(FULL, "top 5 5 5 2 5", Due.BAD);
        refused(FULL, "dent 0 0 0", Due.FULL);
        refused(FULL, "dent 0 0 21", Due.BAD);
        refused(FULL, "enter 4 0 0 0 1", Due.FULL);
        refused(FULL, "enter 3 0 0 0 1", Due.BAD);
        refused(FULL, "enter 4 0 0 0 0", Due.BAD);
        refused(FULL, "whip 0 1 1", Due.FULL);
        refused(FULL, "whip 0 0 1", Due.BAD);
        refused(FULL, "among 0 0", Due.FULL);
        refused(FULL, "among 1 39", Due.FULL);
        refused(FULL, "among 1 40", Due.BAD);
        refused(FULL, "among 2 0", Due.BAD);
        refused(FULL, "was 0 1 1", Due.FULL);
        refused(FULL, "was 0 1 2", Due.FULL);
        refused(FULL, "was 0 0 1", Due.BAD);
        refused(FULL, "was 0 1 3", Due.BAD);
        refused(FULL, "type 59", Due.FULL);
        refused(FULL, "type 256", Due.BAD);
        // No refusal, but there is no room for a row: none comes.
        still.keeps(FULL + "; put 0 0 1 1", "read 0", 0, 0);
    }

    /** What is full takes again what it took when it has been emptied, and no more. */
    private static void roomAgain() {
        String[][] emptied = {{"smooth", "dent 0 0 1", "24"}, {"clear", "enter 9 0 0 0 1", "4"}, {"clear", "whip 0 1 1", "8"},
            {"choose", "among 0 5", "4"}, {"choose", "among 1 5", "4"}, {"forget", "was 0 1 1", "40"}, {"wipe", "type 59", "40"}};
        for (String[] one : emptied) {
            TopYard yard = new TopYard();
            Face.calls(yard, FULL);
            Face.call(yard, one[0]);
            int most = Integer.parseInt(one[2]);
            for (int n = 1; n <= most; n++) {
                String call = one[1].startsWith("enter") ? "enter " + n + " 0 0 0 1" : one[1];
                long want = one[1].startsWith("enter") ? n - 1 : n;
                due.is(13, one[0] + ", then " + call, Face.call(yard, call), want);
            }
            due.is(13, one[0] + ", then one too many of " + one[1], Face.call(yard, one[1]), Due.FULL);
        }
    }

    private static void notPlayed() {
        String games = PAIR + Yards.typing("w1");
        refused(PAIR, "play 0 1", Due.NOT);
        refused(games, "play 0 2", Due.NOT);
        refused(games, "play 2 0", Due.NOT);
        refused(games, "play 2 3", Due.NOT);
        refused(games, "play 2 2", Due.BAD);
        refused(games, "play 2 8", Due.BAD);
        refused(games + "type 59", "play 0 1", Due.NOT);
        refused(games + "type 59", "play 1 1", Due.BAD);
        refused(games + "give 1 0", "play 0 1", Due.NOT);
        refused(BUSY + "; type 59", "play 0 1", Due.NOT);
    }

    private static void lostSheets() {
        String made = BUSY + "; lose 2";
        found(made, "read 2", NULL);
        found(made, "lose 2", NULL);
        // NULL comes ahead of CAST and INDEX, BAD ahead of it.
        found(made, "put 2 2 0 1", NULL);
        found(made, "put 2 0 99 1", NULL);
        refused(made, "put 2 3 99 1", Due.BAD);
        found(made, "get 2 2 0", NULL);
        found(made, "get 2 0 -1", NULL);
        refused(made, "get 2 -1 -1", Due.LEAST);
        // Of copy s or t; ahead of STORE and INDEX.
        found(made, "copy 2 0 0 0 1", NULL);
        found(made, "copy 0 0 2 0 1", NULL);
        found(made, "copy 2 0 2 0 0", NULL);
        found(made, "copy 2 -1 1 0 999", NULL);
        refused(made, "copy 2 0 4 0 1", Due.BAD);
        refused(made, "copy -1 0 2 0 1", Due.BAD);
        found(made, "write 2 0", NULL);
        found(made, "write 2 400", NULL);
        refused(made, "write 2 401", Due.BAD);
    }

    private static void otherForms() {
        // SHEET 0 is of bytes, 1 of shorts, 2 of ints; CAST comes ahead of INDEX.
        for (int s = 0; s < 3; s++) {
            for (int form = 0; form < 3; form++) {
                if (form == s) continue;
                found(BUSY, "put " + s + " " + form + " 0 1", CAST);
                found(BUSY, "put " + s + " " + form + " 20 1", CAST);
                found(BUSY, "get " + s + " " + form + " 0", CAST);
                found(BUSY, "get " + s + " " + form + " -1", CAST);
                found(BUSY, "copy " + s + " 0 " + form + " 0 1", STORE);
                found(BUSY, "copy " + s + " -1 " + form + " 0 -1", STORE);
                found(BUSY, "copy " + s + " 0 " + form + " 0 0", STORE);
            }
        }
    }

    private static void noSuchItems() {
        int[] lengths = {12, 20, 9};
        for (int s = 0; s < 3; s++) {
            for (int i : new int[] {-1, lengths[s], Due.LEAST, Integer.MAX_VALUE}) {
                found(BUSY, Face.text("put", s, s, i, 1), INDEX);
                found(BUSY, Face.text("get", s, s, i), INDEX);
            }
        }
        found(BUSY + "; sheet 1 1 0", "put 1 1 0 1", INDEX);
        found(BUSY + "; sheet 1 1 0", "get 1 1 0", INDEX);
        // SHEETS 0 and 3 are of 12 and 30 bytes.
        int most = Integer.MAX_VALUE;
        int[][] copies = {{0, -1, 3, 0, 1}, {0, 0, 3, -1, 1}, {0, 0, 3, 0, -1}, {0, 0, 3, 0, 13}, {0, 12, 3, 0, 1}, {0, 5, 3, 0, 8},
            {3, 0, 0, 0, 13}, {3, 0, 0, 12, 1}, {3, 0, 0, 5, 8}, {0, 0, 0, 1, 12}, {0, 1, 0, 0, 12}, {0, most, 3, 0, 1},
            {0, 1, 3, 0, most}, {0, 0, 3, most, 2}, {0, most, 3, most, most}, {0, Due.LEAST, 3, 0, 0}, {0, 0, 3, 0, Due.LEAST},
            {0, Due.LEAST, 3, 0, Due.LEAST}, {0, -1, 3, 0, 0}, {0, 0, 3, -1, 0}};
        for (int[] a : copies) found(BUSY, Face.text("copy", a), INDEX);
    }

    private static void sizes() {
        String made = BUSY + "; lose 3; lose 3";
        for (int s = 0; s < 4; s++) {
            found(made, "sheet " + s + " 0 -1", SIZE);
            found(made, "sheet " + s + " 2 -2147483648", SIZE);
        }
        refused(made, "sheet 0 3 -1", Due.BAD);
        refused(made, "sheet 0 -1 -1", Due.BAD);
        refused(made, "sheet 4 0 -1", Due.BAD);
        refused(made, "sheet -1 0 -1", Due.BAD);
    }

    /** Only the latest counts, and what is no FINDING leaves it. */
    private static void latestFinding() {
        TopYard yard = new TopYard();
        Face.calls(yard, "sheet 0 0 5; sheet 1 1 5");
        String[][] calls = {{"lose 2", "1"}, {"put 0 0 5 1", "2"}, {"get 0 1 0", "3"}, {"copy 0 0 1 0 1", "4"}, {"sheet 2 0 -1", "5"},
            {"put 0 0 4 1", "5"}, {"get 0 0 4", "5"}, {"get 4 0 4", "5"}, {"get 0 0 5", "2"}, {"write 3 0", "1"}, {"write 0 0", "1"},
            {"read 0", "1"}, {"put 0 2 0 0", "3"}, {"lose 0", "3"}, {"lose 0", "1"}, {"sheet 0 0 121", "1"}, {"copy 1 0 1 5 1", "2"}};
        for (String[] one : calls) {
            Face.call(yard, one[0]);
            due.is(47, "count(8) behind " + one[0], yard.count(8), Integer.parseInt(one[1]));
        }
    }

    private static void questionsChangeNothing() {
        for (String made : new String[] {BUSY, FULL}) {
            for (String call : new String[] {"turn 3 1", "about 1 5", "height 1 1 2", "run", "winner", "knocks 0", "state 2 40 3",
                "pays 1 1", "value", "mix 0 1", "mix 1 2", "expected 1 2", "worn 0 2", "most", "explained 0 0", "explained 1 1", "fault",
                "played 2", "met 0 1", "pairing 255 5", "bag 1 60 0", "get 0 0 5", "count 9", "digest"}) {
                still.asks(made, call);
            }
        }
    }
}
