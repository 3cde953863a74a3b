/** Promises 27 to 32: bouts that were. */
public final class PastTest {
    private static final Due due = new Due();

    public static void main(String[] args) {
        wasAndForget();
        read();
        worn();
        doubtOfMany();
        most();
        explained();
        mostWearExplains();
        roundedDown();
        readStops();
        readRows();
        lostRowsFirst();
        due.end();
    }

    private static void wasAndForget() {
        TopYard yard = Due.weakYard();
        due.is(28, "forget()", yard.forget(), 0);
        int[][] wrong = {{-1, 0, 1}, {2, 0, 1}, {0, -1, 1}, {0, 2, 1}, {1, 1, 0}, {0, 1, -2}, {0, 1, 3}};
        for (int[] a : wrong) due.is(27, "was, wrong", yard.was(a[0], a[1], a[2]), Due.BAD);
        for (int n = 1; n <= 40; n++) due.is(27, "was, row " + n, yard.was(n % 2, 1 - n % 2, n % 4 - 1), n);
        due.is(27, "was, one too many", yard.was(0, 1, 0), Due.FULL);
        due.is(27, "was, wrong when full", yard.was(0, 0, 0), Due.BAD);
        due.is(27, "count(6)", yard.count(6), 40);
        due.is(28, "forget()", yard.forget(), 40);
        due.is(28, "count(6)", yard.count(6), 0);
        due.is(28, "was(0, 1, 0)", yard.was(0, 1, 0), 1);
    }

    private static void put(TopYard yard, int s, int form, int... items) {
        for (int i = 0; i < items.length; i++) yard.put(s, form, i, items[i]);
    }

    private static void read() {
        TopYard yard = Due.weakYard();
        due.is(29, "read(-1)", yard.read(-1), Due.BAD);
        due.is(29, "read(4)", yard.read(4), Due.BAD);
        due.is(29, "count(8)", yard.count(8), 0);
        due.is(29, "read(0)", yard.read(0), -11);
        due.is(29, "count(8)", yard.count(8), 1);
        yard.sheet(0, 1, 8);
        put(yard, 0, 1, 0, 1, -1, 1, 0, 2, 0, 1);
        due.is(29, "read(0), two left over", yard.read(0), 2);
        yard.sheet(1, 2, 9);
        put(yard, 1, 2, 0, 1, 1, 0, 1, 3, 0, 1, 1);
        due.is(29, "read(1), the second may not be", yard.read(1), 1);
        due.is(29, "count(6)", yard.count(6), 3);
        due.is(29, "worn(0, 0)", yard.worn(0, 0), 1);
        yard.sheet(2, 0, 120);
        for (int i = 0; i < 120; i += 3) yard.put(2, 0, i + 1, 1);
        due.is(29, "read(2), to the full", yard.read(2), 37);
        due.is(29, "read(2), when full", yard.read(2), 0);
        due.is(29, "count(6)", yard.count(6), 40);
        yard.sheet(3, 0, 2);
        yard.forget();
        due.is(29, "read(3), too short", yard.read(3), 0);
        yard.sheet(3, 0, 3);
        due.is(29, "read(3), a TOP with itself", yard.read(3), 0);
        yard.put(3, 0, 1, 1);
        due.is(29, "read(3), just one row", yard.read(3), 1);
    }

    private static void worn() {
        TopYard yard = Due.weakYard();
        yard.wear(0, 1);
        yard.top(16, 1, 1, 1, 1);
        yard.wear(2, 1);
        // EXPECTED of 0, 1 is -1; of 0, 2 it is 0; of 1, 2 it is 1.
        yard.was(0, 1, -1);
        yard.was(1, 0, 0);
        yard.was(2, 0, 1);
        yard.was(0, 2, 0);
        yard.was(0, 2, 1);
        yard.was(0, 2, 2);
        yard.was(2, 1, 2);
        yard.was(1, 2, -1);
        int[][] want = {{1, 3, 875000}, {2, 3, 500000}, {1, 3, 875000}};
        for (int t = 0; t < 3; t++) {
            for (int what = 0; what < 3; what++) {
                due.is(30, "worn(" + t + ", " + what + ")", yard.worn(t, what), want[t][what]);
            }
        }
        int[][] wrong = {{-1, 0}, {3, 0}, {0, -1}, {0, 3}};
        for (int[] a : wrong) due.is(30, "worn, wrong", yard.worn(a[0], a[1]), Due.BAD);
        yard.wear(0, 0);
        yard.wear(1, 1);
        // Now EXPECTED of 0, 1 is 1, of 0, 2 it is 1.
        due.is(30, "worn(0, 0) by other WEARS", yard.worn(0, 0), 4);
        due.is(30, "worn(0, 1) by other WEARS", yard.worn(0, 1), 5);
        due.is(30, "worn(0, 2) by other WEARS", yard.worn(0, 2), 187500);
    }

    private static void doubtOfMany() {
        TopYard yard = Due.weakYard();
        for (int n = 0; n < 40; n++) yard.was(0, 1, n < 20 ? -1 : 0);
        due.is(30, "worn(0, 0) of 40", yard.worn(0, 0), 20);
        due.is(30, "worn(0, 1) of 40", yard.worn(0, 1), 40);
        // Half and half of 137846528820 ways of 2 to the 40.
        due.is(30, "worn(0, 2) of 40", yard.worn(0, 2), 562685);
        due.is(30, "worn(1, 2) of 40", yard.worn(1, 2), 1000000);
        yard.forget();
        due.is(30, "worn(0, 2) of none", yard.worn(0, 2), 1000000);
        for (int n = 0; n < 40; n++) yard.was(0, 1, -1);
        due.is(30, "worn(0, 2), all of 40", yard.worn(0, 2), 0);
        yard.forget();
        for (int n = 0; n < 3; n++) yard.was(1, 0, 1);
        due.is(30, "worn(0, 2), all of 3", yard.worn(0, 2), 125000);
    }

    private static void most() {
        TopYard yard = Due.weakYard();
        due.is(31, "most() of none", yard.most(), Due.NONE);
        yard.was(0, 1, 2);
        due.is(31, "most() of a LOST one", yard.most(), Due.NONE);
        yard.was(0, 1, 0);
        due.is(31, "most(), of like ones", yard.most(), 0);
        yard.was(0, 1, 1);
        due.is(31, "most()", yard.most(), 1);
        yard.was(0, 1, -1);
        yard.was(0, 1, -1);
        due.is(31, "most()", yard.most(), 0);
        // With 0 worn it is EXPECTED to lose: no CHANCES, so the other one, though its DOUBT is whole.
        yard.forget();
        yard.wear(0, 1);
        yard.was(0, 1, -1);
        due.is(31, "most(), CHANCES above 0", yard.most(), 1);
    }

    /** 0 begins with SPIN 50: with WEAR 9 it FALLS behind TICK 4, with 4 to 8 behind 5, as 1 does. */
    private static void mostWearExplains() {
        TopYard yard = new TopYard();
        yard.top(16, 1, 7, 1, 0);
        yard.top(16, 1, 1, 1, 1);
        yard.string(0, 5);
        yard.string(1, 2);
        yard.was(0, 1, -1);
        due.is(32, "explained(0, 0), by the most alone", yard.explained(0, 0), 9);
        due.is(32, "explained(0, 1), by the most alone", yard.explained(0, 1), 1);
        yard.was(1, 0, 0);
        due.is(32, "explained(0, 0), of like ones the least", yard.explained(0, 0), 4);
        due.is(32, "explained(0, 1), of like ones the least", yard.explained(0, 1), 1);
        yard.was(0, 1, 1);
        due.is(32, "explained(0, 0), of like ones the least", yard.explained(0, 0), 0);
        yard.forget();
        yard.was(0, 1, 2);
        due.is(32, "explained(0, 0), all LOST", yard.explained(0, 0), 0);
        due.is(32, "explained(0, 1), all LOST", yard.explained(0, 1), 0);
        yard.forget();
        for (int n = 0; n < 40; n++) yard.was(0, 1, -1);
        due.is(32, "explained(0, 0), as many rows as there may be", yard.explained(0, 0), 9);
        due.is(32, "explained(0, 1), as many rows as there may be", yard.explained(0, 1), 40);
    }

    /** DOUBT where each of n CHANCES was a SURPRISE: 1 of 2 to the n ways. */
    private static void roundedDown() {
        int[][] rows = {{1, 500000}, {6, 15625}, {7, 7812}, {10, 976}, {19, 1}, {20, 0}, {40, 0}};
        for (int[] row : rows) {
            TopYard yard = Due.weakYard();
            for (int n = 0; n < row[0]; n++) yard.was(0, 1, -1);
            due.is(30, "worn(0, 0) of " + row[0], yard.worn(0, 0), row[0]);
            due.is(30, "worn(0, 2) of " + row[0], yard.worn(0, 2), row[1]);
            due.is(30, "worn(1, 0) of " + row[0], yard.worn(1, 0), 0);
            due.is(30, "worn(1, 1) of " + row[0], yard.worn(1, 1), row[0]);
            due.is(30, "worn(1, 2) of " + row[0], yard.worn(1, 2), 1000000);
            due.is(31, "most() of " + row[0], yard.most(), 0);
        }
    }

    /** A row that may not be ends the reading, though good ones follow. */
    private static void readStops() {
        int[][] wrong = {{0, 0, 1}, {0, 2, 1}, {2, 0, 1}, {-1, 1, 1}, {1, -1, 1}, {0, 1, 3}, {0, 1, -2}, {40, 1, 0}};
        for (int[] row : wrong) {
            TopYard yard = Due.weakYard();
            yard.sheet(0, 0, 12);
            put(yard, 0, 0, 0, 1, 2, 1, 0, -1, row[0], row[1], row[2], 0, 1, 1);
            due.is(29, "read(0) with " + java.util.Arrays.toString(row), yard.read(0), 2);
            due.is(29, "count(6)", yard.count(6), 2);
            due.is(29, "count(8)", yard.count(8), 0);
        }
        int[] lengths = {0, 1, 2, 3, 4, 5, 6};
        for (int length : lengths) {
            TopYard yard = Due.weakYard();
            yard.sheet(0, 2, length);
            for (int i = 1; i < length; i += 3) yard.put(0, 2, i, 1);
            due.is(29, "read(0) of " + length + " items", yard.read(0), length / 3);
            due.is(29, "count(6)", yard.count(6), length / 3);
        }
        TopYard nearly = Due.weakYard();
        for (int n = 0; n < 39; n++) nearly.was(0, 1, 0);
        nearly.sheet(0, 1, 6);
        put(nearly, 0, 1, 0, 1, -1, 0, 1, -1);
        due.is(29, "read(0) with room for one", nearly.read(0), 1);
        due.is(29, "read(0) with room for none", nearly.read(0), 0);
        due.is(29, "count(6)", nearly.count(6), 40);
        due.is(29, "worn(0, 0)", nearly.worn(0, 0), 1);
    }

    /** What is read is as what is told by was(). */
    private static void readRows() {
        TopYard yard = Due.weakYard();
        yard.top(16, 1, 1, 1, 1);
        yard.wear(2, 1);
        yard.sheet(3, 0, 6);
        put(yard, 3, 0, 0, 2, -1, 2, 1, 0);
        due.is(29, "read(3)", yard.read(3), 2);
        // EXPECTED of 0, 2 is 1, of 2, 1 it is -1.
        int[][] want = {{1, 1, 500000}, {1, 1, 500000}, {0, 0, 1000000}};
        for (int t = 0; t < 3; t++) {
            for (int what = 0; what < 3; what++) due.is(29, "worn(" + t + ", " + what + ")", yard.worn(t, what), want[t][what]);
        }
    }

    /** A LOST row tells nothing, not even to a later one of the same TOPS. */
    private static void lostRowsFirst() {
        TopYard yard = Due.weakYard();
        yard.wear(0, 1);
        yard.was(0, 1, 2);
        yard.was(1, 0, 2);
        yard.was(0, 1, -1);
        yard.was(1, 0, 0);
        // EXPECTED of 0, 1 is -1: 0 cannot do worse; 1 did once.
        int[][] want = {{0, 0, 1000000}, {1, 2, 750000}};
        for (int t = 0; t < 2; t++) {
            for (int what = 0; what < 3; what++) due.is(30, "worn(" + t + ", " + what + ")", yard.worn(t, what), want[t][what]);
        }
        due.is(31, "most()", yard.most(), 1);
        due.is(32, "explained(0, 0)", yard.explained(0, 0), 0);
        due.is(32, "explained(0, 1)", yard.explained(0, 1), 1);
    }

    private static void explained() {
        TopYard yard = Due.weakYard();
        due.is(32, "explained(0, 0) of none", yard.explained(0, 0), 0);
        due.is(32, "explained(0, 1) of none", yard.explained(0, 1), 0);
        yard.wear(1, 2);
        yard.wear(0, 7);
        // 1 falls behind TICK 3: 0 wins with WEAR 0, 1; nobody does with 2; 1 does with 3 to 9.
        yard.was(0, 1, -1);
        due.is(32, "explained(0, 0)", yard.explained(0, 0), 3);
        due.is(32, "explained(0, 1)", yard.explained(0, 1), 1);
        yard.was(1, 0, 0);
        yard.was(1, 0, 0);
        yard.was(0, 1, 2);
        due.is(32, "explained(0, 0)", yard.explained(0, 0), 2);
        due.is(32, "explained(0, 1)", yard.explained(0, 1), 2);
        yard.was(1, 0, -1);
        yard.was(0, 1, 1);
        yard.was(0, 1, 1);
        due.is(32, "explained(0, 0)", yard.explained(0, 0), 0);
        due.is(32, "explained(0, 1)", yard.explained(0, 1), 3);
        due.is(32, "WEAR stays", yard.about(0, 5), 7);
        // 0 falls behind TICK 2 now: 1 wins with WEAR 0 to 2 (1 row), nobody does with 3 to 9 (2 rows).
        due.is(32, "explained(1, 0), 0 at WEAR 7", yard.explained(1, 0), 3);
        due.is(32, "explained(1, 1), 0 at WEAR 7", yard.explained(1, 1), 2);
        int[][] wrong = {{-1, 0}, {2, 0}, {0, -1}, {0, 2}};
        for (int[] a : wrong) due.is(32, "explained, wrong", yard.explained(a[0], a[1]), Due.BAD);
    }
}
