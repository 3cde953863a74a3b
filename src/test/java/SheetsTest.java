/** Promises 41 to 48: sheets, counts, the digest. */
public final class SheetsTest {
    private static final Due due = new Due();

    public static void main(String[] args) {
        constants();
        sheetAndLose();
        putAndGet();
        orderOfFindings();
        copy();
        copyWithinOne();
        write();
        writeToTheEnd();
        emptyAndFull();
        count();
        digestOfNew();
        digestOfUsed();
        digestOfOwnersAndWears();
        due.end();
    }

    private static void constants() {
        due.is(0, "NONE", TopYard.NONE, -1);
        due.is(0, "BAD", TopYard.BAD, -2);
        due.is(0, "NOT", TopYard.NOT, -3);
        due.is(0, "FULL", TopYard.FULL, -4);
    }

    private static void sheetAndLose() {
        TopYard yard = new TopYard();
        int[][] wrong = {{-1, 0, 1}, {4, 0, 1}, {0, -1, 1}, {0, 3, 1}, {0, 0, 121}, {0, 3, -1}, {4, 0, -1}};
        for (int[] a : wrong) due.is(41, "sheet, wrong", yard.sheet(a[0], a[1], a[2]), Due.BAD);
        due.is(41, "count(8)", yard.count(8), 0);
        due.is(41, "sheet(0, 0, -1)", yard.sheet(0, 0, -1), -15);
        due.is(41, "count(8)", yard.count(8), 5);
        due.is(41, "still LOST", yard.lose(0), -11);
        due.is(41, "sheet(0, 0, 0)", yard.sheet(0, 0, 0), 0);
        due.is(41, "sheet(3, 2, 120)", yard.sheet(3, 2, 120), 120);
        due.is(41, "get(3, 2, 119)", yard.get(3, 2, 119), 0);
        yard.put(3, 2, 119, 7);
        due.is(41, "sheet(3, 2, -5)", yard.sheet(3, 2, -5), -15);
        due.is(41, "it stays", yard.get(3, 2, 119), 7);
        due.is(41, "sheet(3, 2, 120) anew", yard.sheet(3, 2, 120), 120);
        due.is(41, "0 at first", yard.get(3, 2, 119), 0);
        due.is(42, "lose(0)", yard.lose(0), 0);
        due.is(42, "lose(3)", yard.lose(3), 120);
        due.is(42, "lose(3)", yard.lose(3), -11);
        due.is(42, "lose(-1)", yard.lose(-1), Due.BAD);
        due.is(42, "lose(4)", yard.lose(4), Due.BAD);
        due.is(42, "count(8)", yard.count(8), 1);
    }

    private static void putAndGet() {
        TopYard yard = new TopYard();
        for (int form = 0; form < 3; form++) yard.sheet(form, form, 5);
        int[] given = {127, 128, 255, 256, -129, 32768, 65535, -32769, Integer.MAX_VALUE, Due.LEAST};
        for (int v : given) {
            for (int form = 0; form < 3; form++) {
                due.is(43, "put(" + form + ", " + form + ", 4, " + v + ")", yard.put(form, form, 4, v), 1);
                int want = form == 0 ? (byte) v : form == 1 ? (short) v : v;
                due.is(44, "get(" + form + ", " + form + ", 4)", yard.get(form, form, 4), want);
                due.is(44, "its neighbour", yard.get(form, form, 3), 0);
            }
        }
        due.is(44, "count(8)", yard.count(8), 0);
        int[][] bad = {{-1, 0, 0}, {4, 0, 0}, {0, -1, 0}, {0, 3, 0}};
        for (int[] a : bad) {
            due.is(43, "put, wrong", yard.put(a[0], a[1], a[2], 1), Due.BAD);
            due.is(44, "get, wrong", yard.get(a[0], a[1], a[2]), Due.LEAST);
        }
        due.is(44, "count(8)", yard.count(8), 0);
    }

    private static void orderOfFindings() {
        TopYard yard = new TopYard();
        yard.sheet(1, 1, 5);
        // SHEET, FORM, item, the finding: of several the first told.
        int[][] calls = {{0, 0, 9, 1}, {1, 0, 9, 3}, {1, 1, 5, 2}, {1, 2, 0, 3}, {1, 1, -1, 2}, {1, 1, Due.LEAST, 2},
            {1, 1, Integer.MAX_VALUE, 2}, {3, 1, 0, 1}};
        for (int[] a : calls) {
            due.is(43, "put, finding", yard.put(a[0], a[1], a[2], 6), -10 - a[3]);
            due.is(43, "count(8)", yard.count(8), a[3]);
        }
        for (int[] a : calls) {
            due.is(44, "get, finding", yard.get(a[0], a[1], a[2]), Due.LEAST);
            due.is(44, "count(8)", yard.count(8), a[3]);
        }
        for (int i = 0; i < 5; i++) due.is(43, "nothing changed", yard.get(1, 1, i), 0);
    }

    private static void fill(TopYard yard, int s, int form, int n) {
        yard.sheet(s, form, n);
        for (int i = 0; i < n; i++) yard.put(s, form, i, 10 * s + i);
    }

    private static void copy() {
        TopYard yard = new TopYard();
        fill(yard, 0, 1, 6);
        fill(yard, 1, 1, 4);
        fill(yard, 2, 2, 6);
        due.is(45, "copy(-1, ..)", yard.copy(-1, 0, 0, 0, 1), Due.BAD);
        due.is(45, "copy(0, 0, 4, ..)", yard.copy(0, 0, 4, 0, 1), Due.BAD);
        due.is(45, "copy(4, 0, 0, ..)", yard.copy(4, 0, 0, 0, 1), Due.BAD);
        due.is(45, "copy(0, 0, -1, ..)", yard.copy(0, 0, -1, 0, 1), Due.BAD);
        due.is(45, "count(8)", yard.count(8), 0);
        // s, i, t, j, n, the finding.
        int[][] calls = {{3, 9, 2, 0, 1, 1}, {2, 0, 3, 0, 99, 1}, {0, 9, 2, 0, 1, 4}, {0, -1, 1, 0, 1, 2}, {0, 0, 1, -1, 1, 2},
            {0, 0, 1, 0, -1, 2}, {0, 2, 1, 0, 5, 2}, {0, 0, 1, 0, 5, 2}, {0, 6, 1, 0, 1, 2}, {0, 0, 1, 4, 1, 2}, {0, 7, 1, 0, 0, 2},
            {0, 0, 1, 5, 0, 2}, {0, Integer.MAX_VALUE, 1, 0, Integer.MAX_VALUE, 2}, {0, 1, 1, 1, Integer.MAX_VALUE, 2}};
        for (int[] a : calls) {
            due.is(45, "copy, finding", yard.copy(a[0], a[1], a[2], a[3], a[4]), -10 - a[5]);
            due.is(45, "count(8)", yard.count(8), a[5]);
        }
        for (int i = 0; i < 4; i++) due.is(45, "nothing changed", yard.get(1, 1, i), 10 + i);
        due.is(45, "copy(0, 6, 1, 4, 0)", yard.copy(0, 6, 1, 4, 0), 1);
        due.is(45, "copy(0, 2, 1, 1, 3)", yard.copy(0, 2, 1, 1, 3), 1);
        int[] want = {10, 2, 3, 4};
        for (int i = 0; i < 4; i++) due.is(45, "get(1, 1, " + i + ")", yard.get(1, 1, i), want[i]);
    }

    private static void copyWithinOne() {
        TopYard yard = new TopYard();
        fill(yard, 0, 0, 6);
        due.is(45, "copy(0, 0, 0, 1, 5)", yard.copy(0, 0, 0, 1, 5), 1);
        int[] upward = {0, 0, 1, 2, 3, 4};
        for (int i = 0; i < 6; i++) due.is(45, "upward", yard.get(0, 0, i), upward[i]);
        due.is(45, "copy(0, 2, 0, 0, 4)", yard.copy(0, 2, 0, 0, 4), 1);
        int[] downward = {1, 2, 3, 4, 3, 4};
        for (int i = 0; i < 6; i++) due.is(45, "downward", yard.get(0, 0, i), downward[i]);
    }

    private static void write() {
        TopYard yard = new TopYard();
        yard.top(10, 4, 3, 1, 0);
        yard.top(7, 4, 9, -1, 1);
        int[][] wrong = {{-1, 0}, {4, 0}, {0, -1}, {0, 401}};
        for (int[] a : wrong) due.is(46, "write, wrong", yard.write(a[0], a[1]), Due.BAD);
        due.is(46, "write(0, 0), LOST", yard.write(0, 0), -11);
        due.is(46, "count(8)", yard.count(8), 1);
        yard.sheet(0, 2, 20);
        yard.put(0, 2, 16, 99);
        yard.enter(0, -5, 0, 9, 30);
        due.is(46, "write(0, 0) of one", yard.write(0, 0), Due.NOT);
        due.is(46, "write(1, 0) of one, LOST", yard.write(1, 0), -11);
        yard.enter(1, 5, 3, 0, 60);
        due.is(46, "write(0, 1)", yard.write(0, 1), 16);
        int[] want = {-307, 61, 10, 188, 610, 299, 0, 0, 367, 184, 35, 296, -79, 217, 0, 0, 99, 0, 0, 0};
        for (int i = 0; i < 20; i++) due.is(46, "get(0, 2, " + i + ")", yard.get(0, 2, i), want[i]);
        yard.sheet(1, 0, 10);
        due.is(46, "write(1, 1)", yard.write(1, 1), 10);
        for (int i = 0; i < 10; i++) due.is(46, "get(1, 0, " + i + ")", yard.get(1, 0, i), (byte) want[i]);
        yard.sheet(2, 1, 0);
        due.is(46, "write(2, 400)", yard.write(2, 400), 0);
    }

    /** Four PLACES are 32 items: sheets that are just too short, right, and too long. */
    private static void writeToTheEnd() {
        for (int places = 2; places <= 4; places++) {
            for (int form = 0; form < 3; form++) {
                for (int more = -9; more <= 1; more += 1) {
                    int length = 8 * places + more;
                    TopYard yard = new TopYard();
                    for (int t = 0; t < places; t++) {
                        yard.top(10 + 9 * t, 1, 1, 1, t);
                        yard.wear(t, 9);
                        yard.enter(t, 3 * t - 4, 5 - 3 * t, 9 * t, 30);
                    }
                    yard.string(0, 1);
                    yard.sheet(0, form, length);
                    for (int i = 0; i < length; i++) yard.put(0, form, i, 77);
                    int told = Math.min(length, 8 * places);
                    due.is(46, "write(0, 1) to " + length + " items", yard.write(0, 1), told);
                    for (int i = 0; i < length; i++) {
                        int state = i < told ? yard.state(i / 8, 1, i % 8) : 77;
                        int want = form == 0 ? (byte) state : form == 1 ? (short) state : state;
                        due.is(46, "item " + i + " of " + length, yard.get(0, form, i), want);
                    }
                    due.is(46, "0 has FALLEN with LEAN 5", yard.state(0, 1, 7) * 10 + yard.state(0, 1, 6), 25);
                }
            }
        }
    }

    private static void emptyAndFull() {
        TopYard yard = new TopYard();
        for (int form = 0; form < 3; form++) {
            due.is(41, "sheet(0, form, 0)", yard.sheet(0, form, 0), 0);
            due.is(44, "get(0, form, 0) of none", yard.get(0, form, 0), Due.LEAST);
            due.is(45, "copy of none", yard.copy(0, 0, 0, 0, 0), 1);
            due.is(45, "copy of one of none", yard.copy(0, 0, 0, 0, 1), -12);
            due.is(29, "read(0) of none", yard.read(0), 0);
            due.is(42, "lose(0) of none", yard.lose(0), 0);
            due.is(41, "sheet(0, form, 120)", yard.sheet(0, form, 120), 120);
            due.is(43, "put(0, form, 119, 5)", yard.put(0, form, 119, 5), 1);
            due.is(43, "put(0, form, 120, 5)", yard.put(0, form, 120, 5), -12);
            due.is(44, "get(0, form, 119)", yard.get(0, form, 119), 5);
            due.is(44, "get(0, form, 120)", yard.get(0, form, 120), Due.LEAST);
            due.is(45, "copy of 119", yard.copy(0, 1, 0, 0, 119), 1);
            due.is(44, "get(0, form, 118)", yard.get(0, form, 118), 5);
            due.is(45, "copy of 120", yard.copy(0, 0, 0, 0, 120), 1);
            due.is(45, "copy of 121", yard.copy(0, 0, 0, 0, 121), -12);
            // A new row is 0 all over, however long the one before was.
            due.is(41, "sheet(0, form, 5)", yard.sheet(0, form, 5), 5);
            due.is(41, "sheet(0, form, 120)", yard.sheet(0, form, 120), 120);
            for (int i = 115; i < 120; i++) due.is(44, "get(0, form, " + i + ")", yard.get(0, form, i), 0);
            yard.put(0, form, 119, 5);
            due.is(42, "lose(0) of 120", yard.lose(0), 120);
            yard.sheet(0, form, 120);
            due.is(44, "get(0, form, 119) anew", yard.get(0, form, 119), 0);
        }
    }

    private static void count() {
        TopYard yard = Due.weakYard();
        yard.top(1, 1, 1, 1, 0);
        for (int n = 0; n < 2; n++) yard.dent(0, 0, 1);
        for (int t = 0; t < 3; t++) yard.enter(t, t, 0, 0, 9);
        for (int n = 0; n < 4; n++) yard.whip(0, 1, 1);
        yard.among(0, 0);
        for (int n = 0; n < 4; n++) yard.among(1, 0);
        for (int n = 0; n < 6; n++) yard.was(0, 1, 0);
        for (int n = 0; n < 7; n++) yard.type(7);
        yard.bowl(0, 29);
        yard.bowl(1, 28);
        yard.sheet(0, 0, -1);
        int[] want = {3, 2, 3, 4, 1, 4, 6, 7, 5, 29, 28};
        for (int what = 0; what < want.length; what++) due.is(47, "count(" + what + ")", yard.count(what), want[what]);
        due.is(47, "count(-1)", yard.count(-1), Due.BAD);
        due.is(47, "count(11)", yard.count(11), Due.BAD);
    }

    private static long digestOf(long... told) {
        long h = 17;
        for (long v : told) h = 31 * h + v;
        return h;
    }

    /** OWNER, then WEAR of each TOP; STRENGTHS by OWNERS; MET of pairs in order. */
    private static void digestOfOwnersAndWears() {
        TopYard yard = new TopYard();
        long[] told = new long[10 + 2 * 3 + 8 + 3 + 28];
        for (int t = 0; t < 3; t++) {
            yard.top(9, 3, 3, 1, 7 - t);
            yard.wear(t, 2 + 3 * t);
            told[10 + 2 * t] = 7 - t;
            told[11 + 2 * t] = 2 + 3 * t;
        }
        Due.type(yard, "b1;t1");
        yard.play(5, 7);
        yard.play(6, 7);
        yard.play(6, 7);
        for (int owner = 0; owner < 8; owner++) {
            yard.string(owner, 11 * owner);
            told[16 + owner] = 11 * owner;
        }
        told[0] = 3;
        told[7] = 5;
        told[8] = 12;
        told[9] = 4;
        told[24] = -3;
        told[25] = -3;
        told[26] = Due.LEAST;
        // The last pairs are 5 6, 5 7, 6 7.
        told[27 + 26] = 1;
        told[27 + 27] = 2;
        due.is(48, "digest()", yard.digest(), digestOf(told));
    }

    private static void digestOfNew() {
        TopYard yard = new TopYard();
        long[] told = new long[10 + 8 + 3 + 28];
        told[8] = 12;
        told[9] = 4;
        for (int k = 10; k < 18; k++) told[k] = 100;
        told[18] = -3;
        told[19] = -3;
        told[20] = Due.LEAST;
        due.is(48, "digest() of a new one", yard.digest(), digestOf(told));
        yard.lose(0);
        due.is(48, "digest() knows no FINDING", yard.digest(), digestOf(told));
    }

    private static void digestOfUsed() {
        TopYard yard = Due.weakYard();
        yard.wear(1, 1);
        Due.type(yard, "b1");
        yard.play(0, 1);
        yard.string(0, 2);
        yard.string(1, 2);
        yard.enter(0, 0, 0, 0, 60);
        yard.enter(1, 8, 8, 0, 60);
        yard.whip(3, 1, 1);
        yard.dent(20, 20, 1);
        yard.among(0, 0);
        yard.among(1, 1);
        yard.pay(0, 0, 3);
        yard.was(0, 1, 2);
        long[] told = {2, 1, 2, 1, 1, 1, 1, 2, 12, 4, 0, 0, 1, 1, 2, 2, 100, 100, 100, 100, 100, 100, 4, 0, 3000000, 1};
        long[] all = java.util.Arrays.copyOf(told, told.length + 27);
        due.is(48, "digest()", yard.digest(), digestOf(all));
        due.is(48, "digest() changes nothing", yard.digest(), digestOf(all));
    }
}
