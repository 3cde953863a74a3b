/** Promises 19 to 26: choices. */
public final class ChoicesTest {
    private static final Due due = new Due();

    public static void main(String[] args) {
        chooseAndAmong();
        pay();
        fill();
        saddles();
        pennies();
        threeByThree();
        fourByFour();
        roundedDown();
        refusals();
        expected();
        payIsNew();
        howItIsPut();
        sharesBelowNothing();
        leastAndMostSizes();
        leastAndMostPay();
        notSquare();
        oneWithItself();
        due.end();
    }

    private static TopYard yardWith(int tops) {
        TopYard yard = new TopYard();
        for (int t = 0; t < tops; t++) yard.top(10, 2, 3, 1, t % 8);
        return yard;
    }

    /** A choice with these pays; each side's tops are 0, 1, .. */
    private static TopYard game(int[][] pays) {
        TopYard yard = yardWith(4);
        for (int i = 0; i < pays.length; i++) yard.among(0, i);
        for (int j = 0; j < pays[0].length; j++) yard.among(1, j);
        for (int i = 0; i < pays.length; i++) {
            for (int j = 0; j < pays[0].length; j++) yard.pay(i, j, pays[i][j]);
        }
        return yard;
    }

    private static void mixes(String name, TopYard yard, int value, int[] rows, int[] columns) {
        due.is(24, name + ": value()", yard.value(), value);
        for (int i = 0; i < rows.length; i++) due.is(25, name + ": mix(0, " + i + ")", yard.mix(0, i), rows[i]);
        for (int j = 0; j < columns.length; j++) due.is(25, name + ": mix(1, " + j + ")", yard.mix(1, j), columns[j]);
    }

    private static void chooseAndAmong() {
        TopYard yard = yardWith(2);
        due.is(19, "choose()", yard.choose(), 0);
        int[][] wrong = {{-1, 0}, {2, 0}, {0, -1}, {0, 2}};
        for (int[] a : wrong) due.is(20, "among, wrong", yard.among(a[0], a[1]), Due.BAD);
        for (int n = 1; n <= 4; n++) due.is(20, "among(0, 1)", yard.among(0, 1), n);
        due.is(20, "among(0, 1), one too many", yard.among(0, 1), Due.FULL);
        due.is(20, "among(0, 2) when full", yard.among(0, 2), Due.BAD);
        for (int n = 1; n <= 4; n++) due.is(20, "among(1, 0)", yard.among(1, 0), n);
        due.is(20, "among(1, 0), one too many", yard.among(1, 0), Due.FULL);
        due.is(20, "count(4)", yard.count(4), 4);
        due.is(20, "count(5)", yard.count(5), 4);
        yard.pay(0, 0, 5);
        yard.pay(3, 3, 5);
        due.is(19, "choose()", yard.choose(), 8);
        due.is(19, "count(4)", yard.count(4), 0);
        due.is(19, "count(5)", yard.count(5), 0);
        yard.among(0, 0);
        yard.among(1, 0);
        due.is(20, "PAY there is 0", yard.pays(0, 0), 0);
        yard.pay(0, 0, 7);
        yard.among(0, 1);
        yard.among(1, 1);
        due.is(20, "PAY elsewhere stays", yard.pays(0, 0), 7);
        due.is(20, "PAY there is 0", yard.pays(1, 1), 0);
    }

    private static void pay() {
        TopYard yard = game(new int[][] {{0, 0, 0}, {0, 0, 0}});
        due.is(21, "pay(1, 2, 9)", yard.pay(1, 2, 9), 0);
        due.is(21, "pay(1, 2, -9)", yard.pay(1, 2, -9), 9);
        due.is(22, "pays(1, 2)", yard.pays(1, 2), -9);
        due.is(22, "pays(0, 2)", yard.pays(0, 2), 0);
        int[][] wrong = {{-1, 0, 0}, {2, 0, 0}, {0, -1, 0}, {0, 3, 0}, {0, 0, 10}, {0, 0, -10}};
        for (int[] a : wrong) due.is(21, "pay, wrong", yard.pay(a[0], a[1], a[2]), -100);
        for (int k = 0; k < 4; k++) due.is(22, "pays, wrong", yard.pays(wrong[k][0], wrong[k][1]), -100);
        due.is(22, "pays(0, 0)", yard.pays(0, 0), 0);
    }

    private static void fill() {
        TopYard yard = Due.weakYard();
        due.is(23, "fill() of none", yard.fill(), Due.NOT);
        yard.top(16, 1, 1, 1, 1);
        yard.wear(1, 1);
        yard.wear(2, 3);
        for (int t = 0; t < 3; t++) yard.among(0, t);
        due.is(23, "fill() without COLUMNS", yard.fill(), Due.NOT);
        for (int t = 0; t < 3; t++) yard.among(1, t);
        yard.pay(0, 0, 5);
        due.is(23, "fill()", yard.fill(), 6);
        for (int i = 0; i < 3; i++) {
            for (int j = 0; j < 3; j++) due.is(23, "PAY of " + i + ", " + j, yard.pays(i, j), Integer.compare(j, i));
        }
        yard.wear(2, 1);
        due.is(23, "fill() with WEARS alike", yard.fill(), 4);
        due.is(23, "PAY of 1, 2", yard.pays(1, 2), 0);
        // The bout of the yard is another one.
        yard.enter(0, 1, 1, 0, 9);
        yard.whip(0, 1, 50);
        yard.fill();
        due.is(23, "count(2)", yard.count(2), 1);
        due.is(23, "count(3)", yard.count(3), 1);
        due.is(23, "no WHIPS in it", yard.pays(1, 0), -1);
    }

    private static void saddles() {
        mixes("one", game(new int[][] {{-4}}), -4000000, new int[] {1000000}, new int[] {1000000});
        mixes("all alike", game(new int[][] {{2, 2}, {2, 2}}), 2000000, new int[] {1000000, 0}, new int[] {1000000, 0});
        // No saddle: by row 0 as 1/9 columns 0 and 1 pay 25/9, column 2 pays more.
        mixes("ninths", game(new int[][] {{1, 9, -3}, {3, 2, 4}}), 2777777,
            new int[] {111111, 888888}, new int[] {777777, 222222, 0});
        mixes("saddle", game(new int[][] {{1, 0, -3}, {3, 2, 4}}), 2000000, new int[] {0, 1000000}, new int[] {0, 1000000, 0});
        mixes("saddle", game(new int[][] {{-9, -8}, {-7, -9}, {-5, -6}}), -6000000,
            new int[] {0, 0, 1000000}, new int[] {0, 1000000});
        // Of like ones the first row, then the first column.
        mixes("like ones", game(new int[][] {{0, 3}, {1, 1}, {1, 1}}), 1000000, new int[] {0, 1000000, 0}, new int[] {1000000, 0});
    }

    private static void pennies() {
        mixes("pennies", game(new int[][] {{1, -1}, {-1, 1}}), 0, new int[] {500000, 500000}, new int[] {500000, 500000});
        // Rows 0 and 1 ahead of rows 0 and 2.
        mixes("twice", game(new int[][] {{1, -1}, {-1, 1}, {-1, 1}}), 0,
            new int[] {500000, 500000, 0}, new int[] {500000, 500000});
        mixes("twice", game(new int[][] {{1, -1, -1}, {-1, 1, 1}}), 0,
            new int[] {500000, 500000}, new int[] {500000, 500000, 0});
        mixes("never row 0", game(new int[][] {{-2, -2}, {1, -1}, {-1, 1}}), 0,
            new int[] {0, 500000, 500000}, new int[] {500000, 500000});
    }

    private static void threeByThree() {
        int third = 333333;
        mixes("each beats one", game(new int[][] {{0, -1, 1}, {1, 0, -1}, {-1, 1, 0}}), 0,
            new int[] {third, third, third}, new int[] {third, third, third});
        // Won by paper it is worth twice: shares 1/4, 1/4, 1/2 of the others' sort.
        mixes("unlike stakes", game(new int[][] {{0, -1, 2}, {1, 0, -1}, {-2, 1, 0}}), 0,
            new int[] {250000, 500000, 250000}, new int[] {250000, 500000, 250000});
    }

    private static void fourByFour() {
        int[][] diagonal = {{1, 0, 0, 0}, {0, 2, 0, 0}, {0, 0, 4, 0}, {0, 0, 0, 4}};
        // Shares as 1/1, 1/2, 1/4, 1/4: value 1/2.
        int[] shares = {500000, 250000, 125000, 125000};
        mixes("diagonal", game(diagonal), 500000, shares, shares);
        int[][] inverted = {{-1, 0, 0, 0}, {0, -2, 0, 0}, {0, 0, -4, 0}, {0, 0, 0, -4}};
        mixes("inverted", game(inverted), -500000, shares, shares);
    }

    private static void roundedDown() {
        mixes("below 0", game(new int[][] {{0, -1}, {-1, 1}}), -333334, new int[] {666666, 333333}, new int[] {666666, 333333});
        mixes("sevenths", game(new int[][] {{3, 0}, {0, 4}}), 1714285, new int[] {571428, 428571}, new int[] {571428, 428571});
    }

    private static void refusals() {
        TopYard yard = yardWith(2);
        due.is(24, "value() of none", yard.value(), Due.LEAST);
        due.is(25, "mix(0, 0) of none", yard.mix(0, 0), Due.BAD);
        yard.among(0, 0);
        due.is(24, "value() without COLUMNS", yard.value(), Due.LEAST);
        due.is(25, "mix(0, 0) without COLUMNS", yard.mix(0, 0), Due.NOT);
        due.is(25, "mix(1, 0) without COLUMNS", yard.mix(1, 0), Due.BAD);
        yard.among(1, 0);
        int[][] wrong = {{-1, 0}, {2, 0}, {0, -1}, {0, 1}, {1, 1}};
        for (int[] a : wrong) due.is(25, "mix, wrong", yard.mix(a[0], a[1]), Due.BAD);
        due.is(25, "mix(0, 0)", yard.mix(0, 0), 1000000);
        yard.choose();
        yard.among(1, 0);
        due.is(24, "value() without ROWS", yard.value(), Due.LEAST);
        due.is(25, "mix(1, 0) without ROWS", yard.mix(1, 0), Due.NOT);
    }

    /** Whichever side comes first, nothing of an earlier choice is left. */
    private static void payIsNew() {
        TopYard yard = yardWith(4);
        for (int first = 0; first < 2; first++) {
            for (int t = 0; t < 4; t++) yard.among(first, t);
            for (int t = 0; t < 4; t++) yard.among(1 - first, t);
            for (int i = 0; i < 4; i++) {
                for (int j = 0; j < 4; j++) due.is(20, "PAY of " + i + ", " + j, yard.pay(i, j, 5), 0);
            }
            yard.choose();
        }
        for (int t = 0; t < 4; t++) yard.among(0, t);
        for (int t = 0; t < 4; t++) yard.among(1, t);
        for (int i = 0; i < 4; i++) {
            for (int j = 0; j < 4; j++) due.is(20, "PAY of " + i + ", " + j, yard.pays(i, j), 0);
        }
    }

    /** FILLED tells what the same bout tells when it is put by hand. */
    private static void howItIsPut() {
        int[] told = new int[3];
        for (int seed = 0; seed < 60; seed++) {
            TopYard yard = new TopYard();
            yard.top(1 + seed % 50, 1 + seed % 12, 1 + seed % 9, 1, 0);
            yard.top(1 + 7 * seed % 50, 1 + 5 * seed % 12, 1 + 4 * seed % 9, -1, 1);
            yard.bowl(0, 5 + seed % 26);
            yard.dent(seed % 5 - 2, seed % 7 - 3, seed % 41 - 20);
            yard.wear(0, seed % 10);
            int half = (5 + seed % 26) / 2;
            yard.enter(0, -half, 0, 9, 30);
            yard.enter(1, half, 0, 27, 30);
            int place = yard.winner();
            int want = place == 0 ? 1 : place == 1 ? -1 : 0;
            told[want + 1]++;
            due.is(26, "expected(0, 1) of " + seed, yard.expected(0, 1), want);
            yard.among(0, 0);
            yard.among(1, 1);
            due.is(23, "fill() of " + seed, yard.fill(), want * want);
            due.is(23, "pays(0, 0) of " + seed, yard.pays(0, 0), want);
        }
        due.is(26, "each of 1, -1 came", told[0] > 5 && told[2] > 5 ? 1 : 0, 1);
    }

    /** Parts that come first and hold, but for a share below 0. */
    private static void sharesBelowNothing() {
        // Rows 0 and 2, columns 0 and 1 would have shares -1/2, 3/2 of rows.
        mixes("a row's", game(new int[][] {{2, -1}, {-1, 2}, {2, 1}}), 1250000, new int[] {0, 250000, 750000}, new int[] {250000, 750000});
        // Columns 0 and 2 would have shares -1, 2.
        mixes("a column's", game(new int[][] {{1, -1, 0}, {-1, 0, -1}}), -500000,
            new int[] {500000, 500000}, new int[] {0, 500000, 500000});
        // Rows 0 and 1, columns 1 and 2 would have shares 2, -1 of rows.
        mixes("the first row's", game(new int[][] {{0, 1, 1}, {-1, 1, 0}, {1, 0, 0}}), 500000,
            new int[] {500000, 0, 500000}, new int[] {500000, 500000, 0});
    }

    private static void leastAndMostSizes() {
        mixes("1 by 1", game(new int[][] {{0}}), 0, new int[] {1000000}, new int[] {1000000});
        mixes("1 by 4", game(new int[][] {{3, 2, 5, 2}}), 2000000, new int[] {1000000}, new int[] {0, 1000000, 0, 0});
        mixes("4 by 1", game(new int[][] {{3}, {5}, {2}, {5}}), 5000000, new int[] {0, 1000000, 0, 0}, new int[] {1000000});
        // The last row and the last column alone.
        mixes("4 by 4", game(new int[][] {{0, 0, 0, -1}, {0, 0, 0, -1}, {0, 0, 0, -1}, {2, 2, 2, 1}}), 1000000,
            new int[] {0, 0, 0, 1000000}, new int[] {0, 0, 0, 1000000});
        TopYard yard = game(new int[][] {{0, 0, 0, 0}, {0, 0, 0, 0}, {0, 0, 0, 0}, {0, 0, 0, 0}});
        due.is(21, "pay(3, 3, 1)", yard.pay(3, 3, 1), 0);
        due.is(21, "pay(4, 3, 1)", yard.pay(4, 3, 1), -100);
        due.is(21, "pay(3, 4, 1)", yard.pay(3, 4, 1), -100);
        due.is(22, "pays(4, 3)", yard.pays(4, 3), -100);
        due.is(22, "pays(3, 4)", yard.pays(3, 4), -100);
        due.is(25, "mix(0, 4)", yard.mix(0, 4), Due.BAD);
        due.is(25, "mix(1, 4)", yard.mix(1, 4), Due.BAD);
        due.is(23, "fill() of 16, each with others", yard.fill(), 0);
    }

    /** More COLUMNS than ROWS, and the other way round. */
    private static void notSquare() {
        for (int rows = 1; rows <= 3; rows++) {
            for (int columns = 1; columns <= 3; columns++) {
                TopYard yard = Due.weakYard();
                yard.top(16, 1, 1, 1, 1);
                yard.wear(1, 1);
                yard.wear(2, 3);
                for (int t = 0; t < rows; t++) yard.among(0, t);
                for (int t = 0; t < columns; t++) yard.among(1, t);
                due.is(23, "fill() of " + rows + " by " + columns, yard.fill(), rows * columns - Math.min(rows, columns));
                for (int i = 0; i < rows; i++) {
                    for (int j = 0; j < columns; j++) due.is(23, "pays(" + i + ", " + j + ")", yard.pays(i, j), Integer.compare(j, i));
                }
                due.is(19, "choose() of " + rows + " by " + columns, yard.choose(), rows + columns);
                due.is(19, "choose() again", yard.choose(), 0);
            }
        }
    }

    /** Where the column's TOP is thrown OUT in TICK 1, the row's always wins, but not over itself. */
    private static void oneWithItself() {
        TopYard yard = new TopYard();
        yard.bowl(0, 5);
        for (int t = 0; t < 2; t++) yard.top(1, 1, 1, 1, 0);
        for (int n = 0; n < 6; n++) yard.dent(3, 0, -20);
        for (int t = 0; t < 2; t++) {
            yard.among(0, t);
            yard.among(1, t);
        }
        due.is(23, "fill()", yard.fill(), 2);
        for (int i = 0; i < 2; i++) {
            for (int j = 0; j < 2; j++) {
                due.is(26, "expected(" + i + ", " + j + ")", yard.expected(i, j), i == j ? 0 : 1);
                due.is(23, "pays(" + i + ", " + j + ")", yard.pays(i, j), i == j ? 0 : 1);
            }
        }
    }

    private static void leastAndMostPay() {
        mixes("least", game(new int[][] {{-9}}), -9000000, new int[] {1000000}, new int[] {1000000});
        mixes("most", game(new int[][] {{9}}), 9000000, new int[] {1000000}, new int[] {1000000});
        int[] fourths = {250000, 250000, 250000, 250000};
        mixes("least and most", game(new int[][] {{9, -9, -9, -9}, {-9, 9, -9, -9}, {-9, -9, 9, -9}, {-9, -9, -9, 9}}), -4500000,
            fourths, fourths);
        mixes("most and least", game(new int[][] {{-9, 9, 9, 9}, {9, -9, 9, 9}, {9, 9, -9, 9}, {9, 9, 9, -9}}), 4500000,
            fourths, fourths);
    }

    private static void expected() {
        TopYard yard = Due.weakYard();
        due.is(26, "expected(0, 1), alike", yard.expected(0, 1), 0);
        due.is(26, "expected(0, 0)", yard.expected(0, 0), 0);
        yard.wear(0, 2);
        due.is(26, "expected(0, 1)", yard.expected(0, 1), -1);
        due.is(26, "expected(1, 0)", yard.expected(1, 0), 1);
        yard.wear(1, 9);
        due.is(26, "expected(0, 1)", yard.expected(0, 1), 1);
        // 30 TURNS or more than the STRINGS' 2 are 2.
        yard.string(0, 1);
        due.is(26, "expected(0, 1) by STRINGS", yard.expected(0, 1), -1);
        int[][] wrong = {{-1, 0}, {0, -1}, {2, 0}, {0, 2}};
        for (int[] a : wrong) due.is(26, "expected, wrong", yard.expected(a[0], a[1]), -100);
    }
}
