/** Part 2 of the terms, step by step: the last number on one side of each bound and the first on the other. */
public final class BoutEdgesTest {
    private static final Due due = new Due();

    public static void main(String[] args) {
        spinAtFirst();
        leanAtFirst();
        headingsGoRound();
        lossByPegAndWear();
        spinIsNotBelowNothing();
        cutTowardNothing();
        cellsRoundedDown();
        edgeOfBowlAslant();
        edgeOfRingAslant();
        reachOfRims();
        reachOfUnlikeRims();
        nearlyNoApproach();
        lockOfUnlikeWeights();
        spinThatGoesOver();
        spinBehindKnocks();
        outOnesDoNotFall();
        outOnesDoNotKnock();
        fallenOnesDoNotKnock();
        pairsInOrder();
        endsBehindTick400();
        whipInTick400();
        whipsThatMissOrAdd();
        keepsWhatItHad();
        due.end();
    }

    private static void states(TopYard yard, int place, int tick, int... want) {
        for (int what = 0; what < want.length; what++) {
            due.is(18, "state(" + place + ", " + tick + ", " + what + ")", yard.state(place, tick, what), want[what]);
        }
    }

    /** A yard made by calls. */
    private static TopYard yard(String calls) {
        TopYard yard = new TopYard();
        Face.calls(yard, calls);
        return yard;
    }

    private static void spinAtFirst() {
        // TURNS, PEG, STRENGTH, SPIN: 40 less 2 PEG is 38 to 22.
        int[][] rows = {{1, 1, 200, 10}, {37, 1, 200, 370}, {38, 1, 200, 380}, {39, 1, 200, 380}, {60, 1, 200, 380}, {60, 1, 39, 380},
            {60, 1, 38, 380}, {60, 1, 37, 370}, {60, 1, 1, 10}, {60, 1, 0, 0}, {60, 9, 200, 220}, {22, 9, 22, 220}, {21, 9, 22, 210},
            {22, 9, 21, 210}, {23, 9, 23, 220}, {1, 9, 0, 0}};
        for (int[] row : rows) {
            TopYard yard = yard("top 5 1 " + row[1] + " 1 0; top 5 1 1 1 1; string 0 " + row[2]);
            yard.enter(0, 0, 0, 0, row[0]);
            yard.enter(1, 9, 0, 0, 9);
            due.is(18, "SPIN at first by " + java.util.Arrays.toString(row), yard.state(0, 0, 5), row[3]);
        }
    }

    private static void leanAtFirst() {
        for (int wear = 0; wear <= 9; wear++) {
            TopYard yard = yard("top 5 1 1 1 0; top 5 1 1 1 1; enter 0 0 0 0 9; enter 1 9 0 0 9");
            yard.wear(0, wear);
            due.is(18, "LEAN at first with WEAR " + wear, yard.state(0, 0, 6), wear < 4 ? wear : 4);
        }
    }

    private static int headingBehindOne(int heading, int sense, int wear) {
        TopYard yard = yard("top 5 1 1 " + sense + " 0; top 5 1 1 1 1; wear 0 " + wear);
        yard.enter(0, 0, 0, heading, 30);
        yard.enter(1, 9, 0, 0, 30);
        return yard.state(0, 1, 2);
    }

    private static void headingsGoRound() {
        due.is(18, "HEADING 34 and 1", headingBehindOne(34, 1, 0), 35);
        due.is(18, "HEADING 35 and 1", headingBehindOne(35, 1, 0), 0);
        due.is(18, "HEADING 1 less 1", headingBehindOne(1, -1, 0), 0);
        due.is(18, "HEADING 0 less 1", headingBehindOne(0, -1, 0), 35);
        // With WEAR 9 LEAN comes from 4 to 3: it turns by 4.
        due.is(18, "HEADING 31 and 4", headingBehindOne(31, 1, 9), 35);
        due.is(18, "HEADING 32 and 4", headingBehindOne(32, 1, 9), 0);
        due.is(18, "HEADING 35 and 4", headingBehindOne(35, 1, 9), 3);
        due.is(18, "HEADING 4 less 4", headingBehindOne(4, -1, 9), 0);
        due.is(18, "HEADING 3 less 4", headingBehindOne(3, -1, 9), 35);
        due.is(18, "HEADING 0 less 4", headingBehindOne(0, -1, 9), 32);
        // Round many times: 400 TICKS are 11 rounds and 4.
        TopYard yard = yard("top 36 1 1 1 0; top 36 1 1 -1 1; dent 0 0 20; dent 0 0 20; enter 0 -2 0 26 60; enter 1 2 3 4 60");
        for (int k = 0; k < 8; k++) yard.whip(k % 2, 1, 100);
        due.is(18, "HEADING 26 and 400", yard.state(0, 400, 2), 30);
        due.is(18, "HEADING 4 less 400", yard.state(1, 400, 2), 0);
    }

    private static void lossByPegAndWear() {
        // PEG, WEAR, loss: 1, a fourth of both together, LEAN.
        int[][] rows = {{1, 0, 1}, {3, 0, 1}, {4, 0, 2}, {7, 0, 2}, {8, 0, 3}, {9, 0, 3}, {1, 2, 3}, {1, 3, 5}, {1, 4, 6}, {3, 4, 6},
            {4, 4, 7}, {9, 2, 5}, {9, 3, 7}, {9, 6, 8}, {9, 7, 9}, {9, 9, 9}};
        for (int[] row : rows) {
            TopYard yard = yard("top 5 1 " + row[0] + " 1 0; top 5 1 1 1 1; wear 0 " + row[1] + "; enter 0 0 0 0 20; enter 1 9 0 0 9");
            due.is(18, "SPIN lost by " + java.util.Arrays.toString(row), 200 - yard.state(0, 1, 5), row[2]);
        }
    }

    private static void spinIsNotBelowNothing() {
        // PEG 9, WEAR 9 lose 9 of the WHIP alone.
        int[][] rows = {{1, 0}, {8, 0}, {9, 0}, {10, 1}, {18, 9}, {19, 10}};
        for (int[] row : rows) {
            TopYard yard = yard("top 5 1 9 1 0; top 5 1 1 1 1; wear 0 9; string 0 0; enter 0 0 0 0 20; enter 1 9 0 0 9");
            yard.whip(0, 1, row[0]);
            due.is(18, "SPIN behind a WHIP of " + row[0], yard.state(0, 1, 5), row[1]);
            due.is(18, "it FALLS with SPIN " + row[1], yard.state(0, 1, 7), row[1] < 10 ? 3 : 0);
        }
    }

    /** P and X of a TOP at 0, 0 behind TICK 1, where a DENT makes the SLOPE along x. */
    private static void moved(int weight, int heading, int slope, int p, int x) {
        TopYard yard = yard("top " + weight + " 1 1 1 0; top 5 1 1 1 1");
        for (int left = slope; left != 0; left -= Math.max(-20, Math.min(20, left))) {
            yard.dent(1, 0, Math.max(-20, Math.min(20, left)));
        }
        yard.enter(0, 0, 0, heading, 30);
        yard.enter(1, 9, 9, 0, 30);
        due.is(18, "P with WEIGHT " + weight + ", HEADING " + heading + ", SLOPE " + slope, yard.state(0, 1, 3), p);
        due.is(18, "X with WEIGHT " + weight + ", HEADING " + heading + ", SLOPE " + slope, yard.state(0, 1, 0), x);
    }

    private static void cutTowardNothing() {
        // C 65 of HEADING 0, 60 of 2: P 17, 16, 15, -15, -16, -17 less a 16th.
        moved(1, 0, 24, 16, 16);
        moved(1, 2, 22, 15, 15);
        moved(1, 0, 25, 15, 15);
        moved(1, 0, 40, -15, -15);
        moved(1, 2, 38, -15, -15);
        moved(1, 0, 41, -16, -16);
        // C 0 of HEADING 9: P 20, -20 less a 16th are 19, -19, by 10.
        moved(10, 9, -1, 19, 1);
        moved(10, 9, 1, -19, -1);
        // With LEAN 1 HEADING 15 turns to 17: -63 by 65, 16 by 65 are 0; -56 less a 16th.
        TopYard yard = yard("top 1 1 1 1 0; top 5 1 1 1 1; string 0 0; enter 0 0 0 15 30; enter 1 9 9 0 30");
        states(yard, 0, 1, -53, 32 - 1, 17, -53, 31, 0, 1);
        TopYard two = yard("top 2 1 1 1 0; top 5 1 1 1 1; string 0 0; enter 0 0 0 15 30; enter 1 9 9 0 30");
        // Twice -63 by 65 is -1: P -112 less 1 less a 16th; Q 66 and 0 less a 16th.
        states(two, 0, 1, -53, 31, 17, -106, 62, 0, 1);
    }

    /** X, or Y, behind TICK 1, then P, or Q, behind TICK 2, which tells of which cell the SLOPE was. */
    private static void cell(int alongX, int alongY, int slope, int place, int way) {
        for (int axis = 0; axis < 2; axis++) {
            TopYard yard = yard("top 1 1 1 1 0; top 5 1 1 1 1");
            for (int half : new int[] {slope / 2, slope - slope / 2}) yard.dent(1 - axis, axis, half);
            yard.enter(0, 0, 0, axis == 0 ? alongX : alongY, 30);
            yard.enter(1, -7, -7, 0, 30);
            due.is(18, "X or Y of the cell", yard.state(0, 1, axis), place);
            due.is(18, "P or Q by the cell of " + place, yard.state(0, 2, 3 + axis), way);
        }
    }

    private static void cellsRoundedDown() {
        // Along x without DENTS SLOPE is 2 in cell 1, -2 in -1, -4 in -2; in cell 0 it is the DENT's.
        // 60 and 8 less 4 is 64, cell 0: 64 and 8 less 4.
        cell(2, 7, -4, 64, 68);
        // 65 and 4 less 4 is 65, cell 1: 65 less 4 less 3.
        cell(0, 9, -2, 65, 58);
        // -65 and 64 is -1, cell -1: -1 and 4.
        cell(18, 27, -32, -1, 3);
        // -65 less 4 and 4 is -65, cell -1: -65 and 4 and 3.
        cell(18, 27, 2, -65, -58);
        // -60 less 10 and 4 is -66, cell -2: -66 and 8 and 3.
        cell(16, 29, 5, -66, -55);
    }

    private static void edgeOfBowlAslant() {
        // A heavy one at 3, 4 that hardly moves: 195, 260 is just 325 from the middle.
        String made = "bowl 0 5; top 50 1 1 1 0; top 50 1 1 1 1; dent 4 4 12; dent 4 4 12; dent 3 5 4; enter 0 3 4 2 30; enter 1 0 0 0 30";
        states(yard(made), 0, 1, 195, 260, 3, 0, 47, 299, 0, 0);
        states(yard(made + "; dent 3 5 -1"), 0, 1, 195, 262, 3, 0, 141, 299, 0, 1);
        states(yard(made + "; dent 3 5 1"), 0, 1, 195, 260, 3, 0, -47, 299, 0, 0);
    }

    private static void edgeOfRingAslant() {
        // 63 less 3, and 26 less 1: 60, 25 is just 65 from the middle.
        String made = "bowl 1 1; top 1 1 1 1 0; top 50 1 1 1 1; string 0 0; dent 0 1 -5; enter 0 0 0 1 30; enter 1 9 9 0 30";
        states(yard(made), 0, 1, 60, 25, 3, 60, 25, 0, 1, 3);
        states(yard(made + "; dent 0 1 -1"), 0, 1, 60, 27, 3, 60, 27, 0, 1, 2);
        states(yard(made + "; bowl 1 0"), 0, 1, 60, 25, 3, 60, 25, 0, 1, 2);
    }

    private static void reachOfRims() {
        // RIMS of 1 reach 26. 0 goes to 61; 1 at 2, 0 with SLOPE -10: -65 and 20 is -45, and 2: X 130 - 43 = 87.
        String made = "top 1 1 1 1 0; top 1 1 1 1 1; enter 0 0 0 0 30; enter 1 2 0 18 30; ";
        TopYard near = yard(made + "dent 3 0 -14");
        due.is(18, "X of 0", near.state(0, 1, 0), 61);
        due.is(18, "X of 1, 26 apart", near.state(1, 1, 0), 87);
        due.is(18, "SPIN behind a KNOCK", near.state(0, 1, 5), 298);
        due.is(18, "P of 0, LOCKED", near.state(0, 1, 3), 9);
        // With a DENT of 1 ahead of it 0 goes to 60.
        TopYard far = yard(made + "dent 3 0 -13; dent 1 0 1");
        due.is(18, "X of 0", far.state(0, 1, 0), 60);
        due.is(18, "X of 1, 27 apart", far.state(1, 1, 0), 87);
        due.is(18, "SPIN without a KNOCK", far.state(0, 1, 5), 299);
        // RIMS of 1 and 2 reach 39.
        TopYard wide = yard("top 1 1 1 1 0; top 1 2 1 1 1; enter 0 0 0 0 30; enter 1 2 0 18 30; dent 3 0 -13; dent 1 0 1");
        due.is(18, "SPIN with wider RIMS", wide.state(0, 1, 5), 298);
    }

    private static void reachOfUnlikeRims() {
        // As above, with SLOPE -17: -65 and 34 is -31, and 1: X 100, which is 39 or 40 from the other one.
        String[] dents = {"dent 3 0 -20; dent 3 0 -1", "dent 3 0 -20; dent 1 0 1"};
        int[][] rims = {{1, 1, 26}, {1, 2, 39}, {2, 1, 39}, {2, 2, 52}, {1, 3, 52}};
        for (int[] rim : rims) {
            for (int k = 0; k < 2; k++) {
                TopYard yard = yard("top 1 " + rim[0] + " 1 1 0; top 1 " + rim[1] + " 1 1 1; enter 0 0 0 0 30; enter 1 2 0 18 30; " + dents[k]);
                due.is(18, "how far apart", yard.state(1, 1, 0) - yard.state(0, 1, 0), 39 + k);
                due.is(18, "SPIN with RIMS " + rim[0] + ", " + rim[1], yard.state(0, 1, 5), rim[2] >= 39 + k ? 298 : 299);
            }
        }
    }

    private static void lockOfUnlikeWeights() {
        // The other one comes with P -2190 and 136, or -511 and 31: together -1444 by 10 of 40, or 130 by 10 of 17.
        int[][] rows = {{30, -361, -1083}, {7, 76, 54}};
        for (int[] row : rows) {
            for (int axis = 0; axis < 2; axis++) {
                TopYard yard = yard("top 10 2 3 1 0; top " + row[0] + " 2 3 1 0; enter 0 0 0 " + 9 * axis + " 30");
                yard.enter(1, 2 - 2 * axis, 2 * axis, 18 + 9 * axis, 30);
                due.is(18, "P or Q of 0, WEIGHT " + row[0], yard.state(0, 1, 3 + axis), row[1]);
                due.is(18, "P or Q of 1, WEIGHT " + row[0], yard.state(1, 1, 3 + axis), row[2]);
                due.is(18, "the other of 0", yard.state(0, 1, 4 - axis), 0);
                due.is(18, "the other of 1", yard.state(1, 1, 4 - axis), 0);
            }
        }
    }

    private static void nearlyNoApproach() {
        // WEIGHTS 1, 2. P 57, 98, Q 24, -81; dx -8, dy 1: K is 128 less 129.
        String made = "top 1 1 1 1 0; top 2 2 1 1 1; ";
        TopYard least = yard(made + "enter 0 0 0 2 30; enter 1 0 1 32 30");
        states(least, 0, 1, 57, 24, 3, 57, 24, 298, 0, 0);
        states(least, 1, 1, 49, 25, 33, 98, -81, 298, 0, 0);
        // P 60, 119, Q 15, 30; dx -1: K is 1.
        TopYard apart = yard(made + "enter 0 0 0 1 30; enter 1 0 0 1 30");
        states(apart, 0, 1, 60, 15, 2, 60, 15, 299, 0, 0);
        states(apart, 1, 1, 59, 15, 2, 119, 30, 299, 0, 0);
        // Both alike: K is 0.
        TopYard same = yard("top 1 1 1 1 0; top 1 2 1 1 1; enter 0 0 0 1 30; enter 1 0 0 1 30");
        due.is(18, "SPIN where K is 0", same.state(0, 1, 5), 299);
        due.is(18, "SPIN where K is 0", same.state(1, 1, 5), 299);
    }

    /** Two that meet in TICK 1 with SPINS 199 and 199 and the WHIP's. */
    private static void spins(int place, int whip, int first, int second) {
        TopYard yard = yard("top 10 2 3 1 0; top 10 3 3 1 0; enter 0 0 0 0 20; enter 1 2 0 18 20");
        yard.whip(place, 1, whip);
        due.is(18, "SPIN of 0, WHIP of " + whip, yard.state(0, 1, 5), first);
        due.is(18, "SPIN of 1, WHIP of " + whip, yard.state(1, 1, 5), second);
    }

    private static void spinThatGoesOver() {
        spins(0, 7, 206 - 1, 199 - 1);
        spins(0, 8, 207 - 1 - 1, 199 + 1 - 1);
        spins(0, 15, 214 - 1 - 1, 199 + 1 - 1);
        spins(0, 16, 215 - 2 - 1, 199 + 2 - 1);
        spins(1, 7, 199 - 1, 206 - 1);
        spins(1, 8, 199 + 1 - 1, 207 - 1 - 1);
        spins(1, 16, 199 + 2 - 1, 215 - 2 - 1);
    }

    private static void spinBehindKnocks() {
        // STRINGS of no STRENGTH: SPIN is the WHIP's less 1; SENSES unlike take 3 of it, alike 1.
        int[][] rows = {{-1, 1, 0}, {-1, 3, 0}, {-1, 4, 0}, {-1, 5, 1}, {1, 1, 0}, {1, 2, 0}, {1, 3, 1}};
        for (int[] row : rows) {
            TopYard yard = yard("top 10 2 1 1 0; top 10 3 1 " + row[0] + " 0; string 0 0; enter 0 0 0 0 20; enter 1 2 0 18 20");
            yard.whip(0, 1, row[1]);
            yard.whip(1, 1, row[1]);
            due.is(18, "SPIN of 0 by " + java.util.Arrays.toString(row), yard.state(0, 1, 5), row[2]);
            due.is(18, "SPIN of 1 by " + java.util.Arrays.toString(row), yard.state(1, 1, 5), row[2]);
            due.is(17, "knocks(0)", yard.knocks(0), 1);
        }
    }

    private static void outOnesDoNotFall() {
        // Without SPIN, or with LEAN 8 and more, what is OUT is OUT: step f comes ahead of step h.
        TopYard yard = yard("bowl 0 5; bowl 1 30; top 10 1 1 1 0; top 10 1 1 1 1; string 0 0; enter 0 5 0 0 30; enter 1 0 0 0 30");
        due.is(18, "how it is", yard.state(0, 1, 7), 1);
        due.is(18, "its SPIN", yard.state(0, 1, 5), 0);
        due.is(18, "how it is behind the end", yard.state(0, 400, 7), 1);
        due.is(16, "winner()", yard.winner(), 1);
        TopYard three = yard("bowl 0 5; bowl 1 30; top 10 1 1 1 0; top 10 1 1 1 1; top 10 1 1 1 2; string 0 0; enter 0 5 0 0 30; "
            + "enter 1 0 0 0 30; enter 2 0 -3 0 30");
        due.is(18, "how it is in later TICKS", three.state(0, 3, 7), 1);
    }

    private static void outOnesDoNotKnock() {
        // 0 is OUT at 367; 1 comes to 306 behind it, faster, and well within their RIMS.
        for (int first = 0; first < 2; first++) {
            String[] both = {"enter 0 5 0 0 30; ", "enter 1 4 0 0 30; "};
            TopYard yard = yard("bowl 0 5; top 10 12 1 1 0; top 10 12 1 1 1; top 10 1 1 1 2; " + both[first] + both[1 - first]
                + "enter 2 -4 0 0 30");
            due.is(18, "X of the one", yard.state(first, 1, 0), 367);
            due.is(18, "it is OUT", yard.state(first, 1, 7), 1);
            due.is(18, "SPIN of the one", yard.state(first, 1, 5), 299);
            due.is(18, "X of the other", yard.state(1 - first, 1, 0), 306);
            due.is(18, "SPIN of the other", yard.state(1 - first, 1, 5), 299);
            due.is(18, "P of the other", yard.state(1 - first, 1, 3), 460);
        }
    }

    private static void fallenOnesDoNotKnock() {
        // 0 FALLS at -61 in TICK 1; 1 comes over it from 3, 0: 123, 52, -15, -74.
        for (int first = 0; first < 2; first++) {
            String[] both = {"enter 0 0 0 18 30; ", "enter 1 3 0 18 30; "};
            TopYard yard = yard("top 10 1 1 1 0; top 10 1 1 1 1; top 10 1 1 1 2; string 0 0; " + both[first] + both[1 - first]
                + "enter 2 0 9 0 30");
            due.is(18, "it FALLS within THE RING", yard.state(first, 1, 7), 3);
            int[] way = {195, 123, 52, -15, -74};
            for (int tick = 0; tick < way.length; tick++) {
                due.is(18, "X of the other", yard.state(1 - first, tick, 0), way[tick]);
                due.is(18, "SPIN of the other", yard.state(1 - first, tick, 5), 300 - tick);
                due.is(18, "X of the fallen one", yard.state(first, tick, 0), tick == 0 ? 0 : -61);
            }
        }
    }

    private static void pairsInOrder() {
        // 0 and 1 come to 61, 0 with P 61, -69; 2 to 61, 61 with P -4, Q -69. All LOCK: 0 1, 0 2, 1 2.
        TopYard yard = yard("top 1 12 1 1 0; top 1 12 1 1 1; top 1 12 1 1 2; enter 0 0 0 0 30; enter 1 2 0 18 30; enter 2 1 2 27 30");
        states(yard, 0, 1, 61, 0, 1, -4, -34, 297, 0, 0);
        states(yard, 1, 1, 61, 0, 19, -4, -17, 297, 0, 0);
        states(yard, 2, 1, 61, 61, 28, -4, -18, 297, 0, 0);
        // The same with PLACES changed: 2 0, 2 1, 0 1.
        TopYard other = yard("top 1 12 1 1 0; top 1 12 1 1 1; top 1 12 1 1 2; enter 2 1 2 27 30; enter 0 0 0 0 30; enter 1 2 0 18 30");
        states(other, 0, 1, 61, 61, 28, -20, -17, 297, 0, 0);
        states(other, 1, 1, 61, 0, 1, 4, -26, 297, 0, 0);
        states(other, 2, 1, 61, 0, 19, 4, -26, 297, 0, 0);
    }

    /** Two that never meet lose 1 of SPIN a TICK; from SPIN 50 on it FALLS behind the 9th. */
    private static TopYard lonely(int whip) {
        TopYard yard = yard("top 36 1 1 1 0; top 36 1 1 1 1; dent 0 0 20; dent 0 0 20; enter 0 -2 0 26 60; enter 1 2 3 4 60");
        for (int k = 0; k < 3; k++) yard.whip(1, 1, 100);
        yard.whip(0, 1, whip);
        return yard;
    }

    private static void endsBehindTick400() {
        int[][] rows = {{60, 399, 1}, {61, 400, 1}, {62, 400, Due.NONE}, {100, 400, Due.NONE}};
        for (int[] row : rows) {
            TopYard yard = lonely(row[0]);
            due.is(15, "run() with a WHIP of " + row[0], yard.run(), row[1]);
            due.is(16, "winner() with a WHIP of " + row[0], yard.winner(), row[2]);
            due.is(17, "knocks(0) with a WHIP of " + row[0], yard.knocks(0), 0);
            due.is(18, "how 0 is at the end", yard.state(0, 400, 7) > 1 ? 1 : 0, row[2] == 1 ? 1 : 0);
        }
        due.is(18, "SPIN behind 399", lonely(61).state(0, 399, 5), 14);
        due.is(18, "LEAN behind 399", lonely(61).state(0, 399, 6), 8);
        due.is(18, "how it is behind 399", lonely(61).state(0, 399, 7), 0);
        due.is(18, "SPIN behind 400", lonely(61).state(0, 400, 5), 5);
    }

    private static void whipInTick400() {
        // 14 and the WHIP less 1 less LEAN 8: at 50 LEAN stays 8, and it STANDS.
        int[][] rows = {{44, 49, 9}, {45, 50, 8}};
        for (int[] row : rows) {
            TopYard yard = lonely(61);
            due.is(14, "whip(0, 400, ..)", yard.whip(0, 400, row[0]), 5);
            due.is(18, "SPIN behind 400", yard.state(0, 400, 5), row[1]);
            due.is(18, "LEAN behind 400", yard.state(0, 400, 6), row[2]);
            due.is(16, "winner()", yard.winner(), row[2] == 9 ? 1 : Due.NONE);
        }
    }

    private static void whipsThatMissOrAdd() {
        // 0 FALLS behind TICK 1, the other two go on.
        String made = "top 10 1 1 1 0; top 10 1 1 1 1; top 10 1 1 1 2; string 0 0; enter 0 0 0 18 30; enter 1 5 0 9 30; enter 2 0 9 0 30; ";
        TopYard yard = yard(made + "whip 0 2 100; whip 3 1 100; whip 1 3 5; whip 1 3 6; whip 1 3 100");
        due.is(14, "a WHIP for one that has FALLEN", yard.state(0, 2, 5), 0);
        due.is(14, "it stays FALLEN", yard.state(0, 2, 7), 3);
        due.is(14, "ahead of the WHIPS", yard.state(1, 2, 5), 298);
        due.is(14, "three WHIPS in one TICK", yard.state(1, 3, 5), 298 + 111 - 1);
        due.is(14, "behind the WHIPS", yard.state(1, 4, 5), 298 + 111 - 2);
        due.is(14, "one that has no WHIP", yard.state(2, 3, 5), 297);
        yard.top(10, 1, 1, 1, 3);
        due.is(12, "PLACE 3", yard.enter(3, 9, 0, 0, 30), 3);
        due.is(14, "a WHIP for PLACE 3, which was there first", yard.state(3, 1, 5), 300 + 100 - 1);
        TopYard ended = yard(made + "clear; enter 0 0 0 18 30; enter 1 5 0 9 30; whip 1 1 1; whip 1 2 50");
        due.is(15, "run()", ended.run(), 1);
        due.is(14, "a WHIP behind the end", ended.state(1, 400, 5), 300);
    }

    private static void keepsWhatItHad() {
        TopYard yard = yard("top 10 1 1 1 0; top 10 1 1 1 1; top 10 1 1 1 2; string 0 0; bowl 0 9; enter 0 0 0 18 30; enter 1 9 0 0 30; "
            + "enter 2 0 -3 0 30; top 10 1 1 1 3; enter 3 0 5 18 30");
        int[] fallen = new int[8];
        int[] out = new int[8];
        for (int what = 0; what < 8; what++) {
            fallen[what] = yard.state(0, 1, what);
            out[what] = yard.state(1, 1, what);
        }
        due.is(18, "0 has FALLEN", fallen[7], 3);
        due.is(18, "1 is OUT", out[7], 1);
        due.is(15, "the others go on", yard.run() > 50 ? 1 : 0, 1);
        for (int tick : new int[] {2, 50, 400}) {
            states(yard, 0, tick, fallen);
            states(yard, 1, tick, out);
        }
        int end = yard.run();
        for (int place = 0; place < 4; place++) {
            for (int what = 0; what < 8; what++) {
                due.is(18, "behind its end as at its end", yard.state(place, 400, what), yard.state(place, end, what));
            }
        }
    }
}
