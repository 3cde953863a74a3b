/** Promises 38 to 40: meetings, the bag. */
public final class MeetingsTest {
    private static final Due due = new Due();

    public static void main(String[] args) {
        met();
        pairing();
        allMeetEvenOften();
        deepPairing();
        squaresOfMetAndOne();
        theLastPairCounts();
        pairingRefusals();
        bag();
        bagTies();
        bagOfMany();
        due.end();
    }

    /** Each OWNER has a TOP, and a GAME of one BOUT is typed. */
    private static TopYard eight() {
        TopYard yard = new TopYard();
        for (int owner = 0; owner < 8; owner++) yard.top(16, 1, 1, 1, owner);
        Due.type(yard, "b1;t1");
        return yard;
    }

    private static void met() {
        TopYard yard = eight();
        due.is(38, "met(3, 5)", yard.met(3, 5), 0);
        yard.play(3, 5);
        yard.play(5, 3);
        yard.play(3, 4);
        yard.play(3, 3);
        due.is(38, "met(3, 5)", yard.met(3, 5), 2);
        due.is(38, "met(5, 3)", yard.met(5, 3), 2);
        due.is(38, "met(4, 3)", yard.met(4, 3), 1);
        due.is(38, "met(4, 5)", yard.met(4, 5), 0);
        int[][] wrong = {{-1, 0}, {8, 0}, {0, -1}, {0, 8}, {2, 2}};
        for (int[] a : wrong) due.is(38, "met, wrong", yard.met(a[0], a[1]), Due.BAD);
    }

    private static void pairs(TopYard yard, int set, int... want) {
        for (int k = 0; k < want.length; k += 2) {
            due.is(39, "pairing(" + set + ", " + want[k] + ")", yard.pairing(set, want[k]), want[k + 1]);
            due.is(39, "pairing(" + set + ", " + want[k + 1] + ")", yard.pairing(set, want[k + 1]), want[k]);
        }
    }

    private static void pairing() {
        TopYard yard = eight();
        pairs(yard, 255, 0, 1, 2, 3, 4, 5, 6, 7);
        pairs(yard, 192, 6, 7);
        pairs(yard, 1 | 8 | 32 | 128, 0, 3, 5, 7);
        yard.play(0, 1);
        pairs(yard, 15, 0, 2, 1, 3);
        pairs(yard, 3, 0, 1);
        yard.play(0, 2);
        pairs(yard, 15, 0, 3, 1, 2);
        yard.play(0, 3);
        // 0 1 and 2 3: 4 and 1, and so are the others: the least OWNER meets the least.
        pairs(yard, 15, 0, 1, 2, 3);
        yard.play(2, 3);
        pairs(yard, 15, 0, 2, 1, 3);
        yard.play(1, 3);
        yard.play(1, 2);
        yard.play(1, 2);
        // Sums 4 and 4; 4 and 4; 4 and 9.
        pairs(yard, 15, 0, 1, 2, 3);
        yard.play(0, 1);
        yard.play(0, 2);
        // 9 and 4; 9 and 4; 4 and 9: alike.
        pairs(yard, 15, 0, 1, 2, 3);
        yard.play(2, 3);
        // 9 and 9; 9 and 4; 4 and 9.
        pairs(yard, 15, 0, 2, 1, 3);
        // The squares tell: 2 and 0 meetings are as many as 1 and 1.
        TopYard squares = eight();
        squares.play(0, 1);
        squares.play(0, 1);
        squares.play(0, 2);
        squares.play(1, 3);
        squares.play(0, 3);
        squares.play(1, 2);
        // 9 and 1 to 4 and 4.
        pairs(squares, 15, 0, 2, 1, 3);
    }

    /** Paired seven times, all meet all others once. */
    private static void allMeetEvenOften() {
        TopYard yard = eight();
        for (int round = 0; round < 7; round++) {
            int[] mates = new int[8];
            for (int p = 0; p < 8; p++) mates[p] = yard.pairing(255, p);
            for (int p = 0; p < 8; p++) {
                due.is(39, "the mate's mate", mates[mates[p]], p);
                if (p < mates[p]) yard.play(p, mates[p]);
            }
        }
        for (int p = 0; p < 8; p++) {
            for (int q = p + 1; q < 8; q++) due.is(39, "met(" + p + ", " + q + ")", yard.met(p, q), 1);
        }
    }

    /** All eight are needed to see which is least: the first pairs alone would mislead. */
    private static void deepPairing() {
        TopYard yard = eight();
        // With 0 1 met never, whatever is left after them has met often: 2 to 7 twice each.
        for (int p = 2; p < 8; p++) {
            for (int q = p + 1; q < 8; q++) {
                yard.play(p, q);
                yard.play(p, q);
            }
        }
        // 0 1: 1 and 3 times 9. 0 2, 1 3: 2 and 2 times 9.
        pairs(yard, 255, 0, 2, 1, 3, 4, 5, 6, 7);
        yard.play(4, 5);
        // 4 5 is 16 now; 4 6, 5 7 are 9 each.
        pairs(yard, 255, 0, 2, 1, 3, 4, 6, 5, 7);
        for (int q = 3; q < 8; q++) yard.play(1, q);
        // 0 2, 1 3: 1, 4, 9, 9. 0 3, 1 2: 1, 1, 9, 9.
        pairs(yard, 255, 0, 3, 1, 2, 4, 6, 5, 7);
        pairs(yard, 255 - 8 - 4, 0, 4, 1, 5, 6, 7);
    }

    private static void meet(TopYard yard, int p, int q, int times) {
        for (int n = 0; n < times; n++) yard.play(p, q);
    }

    /** It is MET and 1 that is squared, not MET, nor MET and 2. */
    private static void squaresOfMetAndOne() {
        TopYard yard = eight();
        meet(yard, 0, 1, 3);
        meet(yard, 0, 2, 2);
        meet(yard, 1, 3, 2);
        meet(yard, 0, 3, 9);
        // 16 and 1 to 9 and 9; 9 and 0 would be more than 4 and 4.
        pairs(yard, 15, 0, 1, 2, 3);
        meet(yard, 0, 1, 1);
        meet(yard, 0, 2, 1);
        // 25 and 1 to 16 and 9; 36 and 4 would be less than 25 and 16.
        pairs(yard, 15, 0, 2, 1, 3);
        // As often as an object's calls allow.
        TopYard often = eight();
        meet(often, 4, 5, 150);
        meet(often, 4, 6, 150);
        pairs(often, 240, 4, 7, 5, 6);
        meet(often, 4, 7, 150);
        pairs(often, 240, 4, 5, 6, 7);
        due.is(38, "met(4, 7)", often.met(4, 7), 150);
    }

    /** The pair that is left over at the end counts as the others do, in sets of every size. */
    private static void theLastPairCounts() {
        TopYard yard = eight();
        meet(yard, 6, 7, 3);
        pairs(yard, 192, 6, 7);
        pairs(yard, 240, 4, 6, 5, 7);
        pairs(yard, 252, 2, 3, 4, 6, 5, 7);
        pairs(yard, 255, 0, 1, 2, 3, 4, 6, 5, 7);
        pairs(yard, 195, 0, 6, 1, 7);
        meet(yard, 5, 7, 2);
        meet(yard, 5, 6, 2);
        // 4 6, 5 7: 1 and 9; 4 5, 6 7: 1 and 16. With 2, 3 too: 2 3 and these are 11, 2 5, 3 6, 4 7 are 3.
        pairs(yard, 240, 4, 6, 5, 7);
        pairs(yard, 252, 2, 5, 3, 6, 4, 7);
        pairs(yard, 255, 0, 1, 2, 5, 3, 6, 4, 7);
        meet(yard, 2, 5, 1);
        meet(yard, 3, 5, 1);
        meet(yard, 4, 5, 1);
        // 5 has met all but 0 and 1: with 0 1 the sum is 7 or more, with 0 2, 1 5 it is 4.
        pairs(yard, 255, 0, 2, 1, 5, 3, 6, 4, 7);
    }

    private static void pairingRefusals() {
        TopYard yard = new TopYard();
        int[][] wrong = {{0, 0}, {1, 0}, {7, 0}, {127, 3}, {3, 2}, {3, -1}, {3, 8}, {255, 8}, {256, 8}, {257, 0}, {-1, 0},
            {Due.LEAST, 0}, {-256, 0}, {3, 32}};
        for (int[] a : wrong) due.is(39, "pairing(" + a[0] + ", " + a[1] + ")", yard.pairing(a[0], a[1]), Due.BAD);
    }

    private static void bags(TopYard yard, int owner, int weight, int... want) {
        for (int what = 0; what < 3; what++) {
            due.is(40, "bag(" + owner + ", " + weight + ", " + what + ")", yard.bag(owner, weight, what), want[what]);
        }
    }

    private static void bag() {
        TopYard yard = new TopYard();
        bags(yard, 0, 500, 0, 0, 0);
        yard.top(50, 12, 1, 1, 1);
        yard.top(10, 4, 2, 1, 0);
        yard.top(20, 6, 5, 1, 0);
        yard.top(15, 5, 9, -1, 0);
        yard.top(5, 1, 9, 1, 0);
        yard.wear(4, 9);
        // Owner 0: WORTH 20, 23, 16, -5 by weights 10, 20, 15, 5.
        bags(yard, 0, 9, 0, 0, 0);
        bags(yard, 0, 10, 1, 20, 10);
        bags(yard, 0, 19, 1, 20, 10);
        bags(yard, 0, 24, 2, 23, 20);
        bags(yard, 0, 25, 5, 36, 25);
        bags(yard, 0, 30, 3, 43, 30);
        bags(yard, 0, 44, 3, 43, 30);
        bags(yard, 0, 45, 7, 59, 45);
        bags(yard, 0, 500, 7, 59, 45);
        bags(yard, 1, 49, 0, 0, 0);
        bags(yard, 1, 50, 1, 45, 50);
        yard.wear(2, 4);
        bags(yard, 0, 20, 1, 20, 10);
        int[][] wrong = {{-1, 5, 0}, {8, 5, 0}, {0, 0, 0}, {0, 501, 0}, {0, 5, -1}, {0, 5, 3}};
        for (int[] a : wrong) due.is(40, "bag, wrong", yard.bag(a[0], a[1], a[2]), Due.BAD);
    }

    private static void bagTies() {
        TopYard yard = new TopYard();
        yard.top(12, 3, 4, 1, 0);
        yard.top(10, 3, 4, 1, 0);
        yard.top(10, 3, 4, 1, 0);
        // All of WORTH 15: the least weight, then the least as bits.
        bags(yard, 0, 15, 2, 15, 10);
        bags(yard, 0, 20, 6, 30, 20);
        bags(yard, 0, 25, 6, 30, 20);
        // A WORTH of 0 is not taken along: it weighs more.
        yard.top(1, 1, 9, 1, 1);
        yard.wear(3, 4);
        bags(yard, 1, 9, 0, 0, 0);
        // 1 and 4 together are as good as 2 and 3: the least as bits is 2 and 3.
        TopYard sums = new TopYard();
        int[] weights = {1, 2, 3, 4};
        for (int w : weights) sums.top(w, w, 9, 1, 0);
        for (int t = 0; t < 4; t++) sums.wear(t, 1);
        bags(sums, 0, 5, 6, 15, 5);
        bags(sums, 0, 6, 7, 18, 6);
    }

    private static void bagOfMany() {
        TopYard yard = new TopYard();
        for (int t = 0; t < 17; t++) yard.top(t == 16 ? 1 : 30, t == 16 ? 12 : 1 + t % 2, 1, 1, 3);
        // The first 16 alone: eight of WORTH 15 (odd ones), eight of 12; 16 of them weigh 480.
        bags(yard, 3, 500, 65535, 8 * 15 + 8 * 12, 480);
        bags(yard, 3, 240, 0xAAAA, 120, 240);
        bags(yard, 3, 60, 10, 30, 60);
        bags(yard, 3, 29, 0, 0, 0);
        for (int t = 0; t < 11; t++) yard.top(50, 2, 1, 1, 4);
        bags(yard, 4, 500, 1023, 150, 500);
        bags(yard, 4, 499, 511, 135, 450);
        yard.top(1, 1, 1, 1, 5);
        bags(yard, 5, 1, 1, 12, 1);
    }
}
