/** Promises 1 to 11: the new object, tops, the bowl. */
public final class TopsTest {
    private static final Due due = new Due();

    public static void main(String[] args) {
        newObject();
        turn();
        top();
        about();
        wearAndGive();
        bowl();
        dents();
        height();
        string();
        lastCall();
        due.end();
    }

    private static void newObject() {
        TopYard yard = new TopYard();
        int[] counts = {0, 0, 0, 0, 0, 0, 0, 0, 0, 12, 4};
        for (int what = 0; what < counts.length; what++) due.is(1, "count(" + what + ")", yard.count(what), counts[what]);
        due.is(1, "about(0, 0)", yard.about(0, 0), -1000);
        for (int s = 0; s < 4; s++) due.is(1, "lose(" + s + ")", yard.lose(s), -11);
        for (int what = 0; what < 4; what++) due.is(1, "played(" + what + ")", yard.played(what), 0);
    }

    private static void turn() {
        TopYard yard = new TopYard();
        int[] c = {65, 63, 60, 56, 52, 39, 33, 25, 16, 0, -16, -25, -33, -39, -52, -56, -60, -63, -65,
            -63, -60, -56, -52, -39, -33, -25, -16, 0, 16, 25, 33, 39, 52, 56, 60, 63};
        for (int h = 0; h < 36; h++) {
            due.is(2, "turn(" + h + ", 0)", yard.turn(h, 0), c[h]);
            due.is(2, "turn(" + h + ", 1)", yard.turn(h, 1), c[(h + 27) % 36]);
        }
        int[][] wrong = {{-1, 0}, {36, 0}, {0, -1}, {0, 2}, {Due.LEAST, 0}, {Integer.MAX_VALUE, 1}};
        for (int[] a : wrong) due.is(2, "turn, wrong", yard.turn(a[0], a[1]), -1000);
    }

    private static void top() {
        TopYard yard = new TopYard();
        int[][] wrong = {{0, 1, 1, 1, 0}, {51, 1, 1, 1, 0}, {1, 0, 1, 1, 0}, {1, 13, 1, 1, 0}, {1, 1, 0, 1, 0},
            {1, 1, 10, 1, 0}, {1, 1, 1, 0, 0}, {1, 1, 1, 2, 0}, {1, 1, 1, -2, 0}, {1, 1, 1, 1, -1}, {1, 1, 1, 1, 8}};
        for (int[] a : wrong) due.is(3, "top, wrong", yard.top(a[0], a[1], a[2], a[3], a[4]), Due.BAD);
        due.is(3, "count(0)", yard.count(0), 0);
        due.is(3, "top(1, 1, 1, -1, 0)", yard.top(1, 1, 1, -1, 0), 0);
        due.is(3, "top(50, 12, 9, 1, 7)", yard.top(50, 12, 9, 1, 7), 1);
        for (int t = 2; t < 40; t++) due.is(3, "top, number " + t, yard.top(5, 5, 5, 1, 3), t);
        due.is(3, "top, one too many", yard.top(5, 5, 5, 1, 3), Due.FULL);
        due.is(3, "top, wrong when full", yard.top(5, 5, 5, 0, 3), Due.BAD);
        due.is(3, "count(0)", yard.count(0), 40);
    }

    private static void about() {
        TopYard yard = new TopYard();
        yard.top(7, 3, 5, -1, 6);
        yard.wear(0, 4);
        int[] told = {7, 3, 5, -1, 6, 4};
        for (int what = 0; what < 6; what++) due.is(4, "about(0, " + what + ")", yard.about(0, what), told[what]);
        int[][] wrong = {{-1, 0}, {1, 0}, {0, -1}, {0, 6}, {40, 0}};
        for (int[] a : wrong) due.is(4, "about, wrong", yard.about(a[0], a[1]), -1000);
    }

    private static void wearAndGive() {
        TopYard yard = new TopYard();
        yard.top(7, 3, 5, -1, 6);
        due.is(5, "wear(0, 9)", yard.wear(0, 9), 0);
        due.is(5, "wear(0, 10)", yard.wear(0, 10), Due.BAD);
        due.is(5, "wear(0, -1)", yard.wear(0, -1), Due.BAD);
        due.is(5, "wear(1, 1)", yard.wear(1, 1), Due.BAD);
        due.is(5, "wear(-1, 1)", yard.wear(-1, 1), Due.BAD);
        due.is(5, "wear(0, 0)", yard.wear(0, 0), 9);
        due.is(5, "about(0, 5)", yard.about(0, 5), 0);
        due.is(6, "give(0, 0)", yard.give(0, 0), 6);
        due.is(6, "give(0, 8)", yard.give(0, 8), Due.BAD);
        due.is(6, "give(0, -1)", yard.give(0, -1), Due.BAD);
        due.is(6, "give(1, 1)", yard.give(1, 1), Due.BAD);
        due.is(6, "give(0, 7)", yard.give(0, 7), 0);
        due.is(6, "about(0, 4)", yard.about(0, 4), 7);
    }

    private static void bowl() {
        TopYard yard = new TopYard();
        due.is(7, "bowl(0, 5)", yard.bowl(0, 5), 12);
        due.is(7, "bowl(0, 30)", yard.bowl(0, 30), 5);
        due.is(7, "bowl(1, 0)", yard.bowl(1, 0), 4);
        due.is(7, "bowl(1, 30)", yard.bowl(1, 30), 0);
        int[][] wrong = {{0, 4}, {0, 31}, {1, -1}, {1, 31}, {2, 12}, {-1, 12}};
        for (int[] a : wrong) due.is(7, "bowl, wrong", yard.bowl(a[0], a[1]), Due.BAD);
        due.is(7, "count(9)", yard.count(9), 30);
        due.is(7, "count(10)", yard.count(10), 30);
    }

    private static void dents() {
        TopYard yard = new TopYard();
        int[][] wrong = {{-32, 0, 1}, {32, 0, 1}, {0, -32, 1}, {0, 32, 1}, {0, 0, -21}, {0, 0, 21}};
        for (int[] a : wrong) due.is(8, "dent, wrong", yard.dent(a[0], a[1], a[2]), Due.BAD);
        due.is(8, "dent(-31, 31, -20)", yard.dent(-31, 31, -20), 1);
        due.is(8, "dent(31, -31, 20)", yard.dent(31, -31, 20), 2);
        due.is(8, "dent(1, 2, 0)", yard.dent(1, 2, 0), 3);
        for (int n = 4; n <= 24; n++) due.is(8, "dent, number " + n, yard.dent(1, 2, 3), n);
        due.is(8, "dent, one too many", yard.dent(1, 2, 3), Due.FULL);
        due.is(8, "dent, wrong when full", yard.dent(1, 32, 3), Due.BAD);
        due.is(8, "height(1, 2, 0)", yard.height(1, 2, 0), 2 + 21 * 3);
        due.is(8, "height(2, 1, 0)", yard.height(2, 1, 0), 2);
        due.is(8, "height(-31, 31, 0)", yard.height(-31, 31, 0), 961 - 20);
        due.is(9, "smooth()", yard.smooth(), 24);
        due.is(9, "smooth()", yard.smooth(), 0);
        due.is(9, "height(1, 2, 0)", yard.height(1, 2, 0), 2);
        due.is(9, "count(1)", yard.count(1), 0);
        due.is(9, "dent(1, 2, 3)", yard.dent(1, 2, 3), 1);
        due.is(9, "height(1, 2, 0)", yard.height(1, 2, 0), 5);
    }

    private static void height() {
        TopYard yard = new TopYard();
        due.is(10, "height(0, 0, 0)", yard.height(0, 0, 0), 0);
        due.is(10, "height(1, 0, 0)", yard.height(1, 0, 0), 0);
        due.is(10, "height(-3, 4, 0)", yard.height(-3, 4, 0), 12);
        due.is(10, "height(-3, 4, 1)", yard.height(-3, 4, 1), -6);
        due.is(10, "height(-3, 4, 2)", yard.height(-3, 4, 2), 8);
        due.is(10, "height(32, -32, 0)", yard.height(32, -32, 0), 1024);
        due.is(10, "height(32, -32, 1)", yard.height(32, -32, 1), 64);
        due.is(10, "height(32, -32, 2)", yard.height(32, -32, 2), -64);
        yard.dent(31, -31, 20);
        due.is(10, "height(32, -31, 1)", yard.height(32, -31, 1), 44);
        due.is(10, "height(31, -32, 2)", yard.height(31, -32, 2), -64 + 20);
        // Beyond the cells that may have DENTS, none of a cell elsewhere counts.
        yard.dent(1, -31, 20);
        yard.dent(-1, 31, 20);
        due.is(10, "height(0, 32, 0)", yard.height(0, 32, 0), 512);
        due.is(10, "height(0, -32, 0)", yard.height(0, -32, 0), 512);
        due.is(10, "height(-32, 31, 0)", yard.height(-32, 31, 0), 992);
        int[][] wrong = {{-33, 0, 0}, {33, 0, 0}, {0, -33, 1}, {0, 33, 2}, {0, 0, -1}, {0, 0, 3}};
        for (int[] a : wrong) due.is(10, "height, wrong", yard.height(a[0], a[1], a[2]), Due.LEAST);
    }

    /** An object is good for 512 calls. */
    private static void lastCall() {
        TopYard yard = new TopYard();
        yard.top(7, 3, 5, -1, 6);
        for (int n = 2; n < 512; n++) due.is(2, "call " + n, yard.turn(n % 36, 0), new TopYard().turn(n % 36, 0));
        due.is(5, "call 512", yard.wear(0, 3), 0);
    }

    private static void string() {
        TopYard yard = new TopYard();
        for (int owner = 0; owner < 8; owner++) due.is(11, "string, at first", yard.string(owner, owner), 100);
        for (int owner = 0; owner < 8; owner++) due.is(11, "string, then", yard.string(owner, 200), owner);
        int[][] wrong = {{-1, 5}, {8, 5}, {0, -1}, {0, 201}};
        for (int[] a : wrong) due.is(11, "string, wrong", yard.string(a[0], a[1]), Due.BAD);
        due.is(11, "string(0, 0)", yard.string(0, 0), 200);
    }
}
