/** Promises 12 to 18: bouts. */
public final class BoutsTest {
    private static final Due due = new Due();

    public static void main(String[] args) {
        enter();
        clearAndWhip();
        refusals();
        firstTick();
        slopesAndDents();
        leansAndFalls();
        bounce();
        lock();
        sameCell();
        outOfBowl();
        wholeLength();
        strongStrings();
        leanWays();
        leanBounds();
        leanTooMuch();
        edgesOfRingAndBowl();
        alongY();
        due.end();
    }

    private static TopYard four() {
        TopYard yard = new TopYard();
        for (int t = 0; t < 5; t++) yard.top(10, 2, 3, 1, t);
        return yard;
    }

    private static void enter() {
        TopYard yard = four();
        int[][] wrong = {{-1, 0, 0, 0, 9}, {5, 0, 0, 0, 9}, {0, -31, 0, 0, 9}, {0, 31, 0, 0, 9}, {0, 0, -31, 0, 9},
            {0, 0, 31, 0, 9}, {0, 0, 0, -1, 9}, {0, 0, 0, 36, 9}, {0, 0, 0, 0, 0}, {0, 0, 0, 0, 61}};
        for (int[] a : wrong) due.is(12, "enter, wrong", yard.enter(a[0], a[1], a[2], a[3], a[4]), Due.BAD);
        due.is(12, "enter(1, -30, 30, 35, 60)", yard.enter(1, -30, 30, 35, 60), 0);
        due.is(12, "enter(1, ..) again", yard.enter(1, 0, 0, 0, 9), Due.BAD);
        due.is(12, "enter(0, 30, -30, 0, 1)", yard.enter(0, 30, -30, 0, 1), 1);
        due.is(12, "enter(4, 0, 0, 0, 9)", yard.enter(4, 0, 0, 0, 9), 2);
        due.is(12, "enter(2, 0, 0, 0, 9)", yard.enter(2, 0, 0, 0, 9), 3);
        due.is(12, "enter(3, 0, 0, 0, 9)", yard.enter(3, 0, 0, 0, 9), Due.FULL);
        due.is(12, "enter(2, ..) when full", yard.enter(2, 0, 0, 0, 9), Due.BAD);
        due.is(12, "count(2)", yard.count(2), 4);
        due.is(12, "state(0, 0, 0)", yard.state(0, 0, 0), -1950);
        due.is(12, "state(0, 0, 1)", yard.state(0, 0, 1), 1950);
    }

    private static void clearAndWhip() {
        TopYard yard = four();
        due.is(13, "clear()", yard.clear(), 0);
        int[][] wrong = {{-1, 1, 1}, {4, 1, 1}, {0, 0, 1}, {0, 401, 1}, {0, 1, 0}, {0, 1, 101}};
        for (int[] a : wrong) due.is(14, "whip, wrong", yard.whip(a[0], a[1], a[2]), Due.BAD);
        for (int n = 1; n <= 8; n++) due.is(14, "whip, number " + n, yard.whip(n % 4, 400, 100), n);
        due.is(14, "whip, one too many", yard.whip(0, 1, 1), Due.FULL);
        due.is(14, "whip, wrong when full", yard.whip(0, 0, 1), Due.BAD);
        yard.enter(0, 0, 0, 0, 9);
        yard.enter(1, 0, 0, 0, 9);
        due.is(13, "clear()", yard.clear(), 2);
        due.is(13, "count(2)", yard.count(2), 0);
        due.is(13, "count(3)", yard.count(3), 0);
        due.is(13, "enter(0, ..) after clear()", yard.enter(0, 0, 0, 0, 9), 0);
        due.is(14, "whip(3, 1, 1)", yard.whip(3, 1, 1), 1);
    }

    private static void refusals() {
        TopYard yard = four();
        yard.enter(0, 0, 0, 0, 9);
        due.is(15, "run() of one", yard.run(), Due.NOT);
        due.is(16, "winner() of one", yard.winner(), Due.NOT);
        due.is(17, "knocks(0) of one", yard.knocks(0), Due.NOT);
        due.is(17, "knocks(2) of one", yard.knocks(2), Due.BAD);
        due.is(18, "state of one", yard.state(0, 0, 0), Due.LEAST);
        yard.enter(1, 5, 5, 0, 9);
        due.is(17, "knocks(-1)", yard.knocks(-1), Due.BAD);
        int[][] wrong = {{-1, 0, 0}, {2, 0, 0}, {0, -1, 0}, {0, 401, 0}, {0, 0, -1}, {0, 0, 8}};
        for (int[] a : wrong) due.is(18, "state, wrong", yard.state(a[0], a[1], a[2]), Due.LEAST);
    }

    private static void states(TopYard yard, int place, int tick, int... want) {
        for (int what = 0; what < want.length; what++) {
            due.is(18, "state(" + place + ", " + tick + ", " + what + ")", yard.state(place, tick, what), want[what]);
        }
    }

    private static void firstTick() {
        TopYard yard = new TopYard();
        yard.top(10, 4, 3, 1, 0);
        yard.top(7, 4, 9, -1, 1);
        yard.enter(0, -5, 0, 9, 30);
        yard.enter(1, 5, 3, 0, 60);
        // 40 less 2 times 9 is 22, less than 60 TURNS.
        states(yard, 0, 0, -325, 0, 9, 0, 650, 300, 0, 0);
        states(yard, 1, 0, 325, 195, 0, 455, 0, 220, 0, 0);
        // P 0 and 20 times 10, less 12; Q 650 less 40.
        states(yard, 0, 1, -307, 61, 10, 188, 610, 299, 0, 0);
        // P 455 less 14 times 10 is 315, less 19; Q 0 less 14 times 6 is -84, and 5; 9 by 4 is 2.
        states(yard, 1, 1, 325 + 42, 195 - 11, 35, 296, -79, 217, 0, 0);
    }

    private static void slopesAndDents() {
        TopYard yard = four();
        yard.dent(1, 0, 20);
        yard.dent(0, -1, 8);
        yard.enter(0, 0, 0, 0, 30);
        yard.enter(1, -4, -9, 27, 30);
        // P 650 less 20 times 20 is 250, less 15; Q 0 less 20 times -8 is 160, less 10.
        states(yard, 0, 1, 23, 15, 1, 235, 150, 299);
        // In cell 0, 0 again: P 235 - 400 = -165, and 10; Q 150 + 160 = 310, less 19.
        states(yard, 0, 2, 23 - 15, 15 + 29, 2, -155, 291, 298);
        // Rounded down, X -1 by 65 is cell -1.
        TopYard left = four();
        left.enter(0, 0, 0, 18, 30);
        left.enter(1, 5, 5, 0, 30);
        states(left, 0, 1, -61, 0, 19, -610, 0, 299);
        // Cell -1, 0: P -610 - 20 times -2 = -570, and 35.
        states(left, 0, 2, -61 - 53, 0, 20, -535, 0, 298);
    }

    private static void leansAndFalls() {
        TopYard yard = Due.weakYard();
        yard.wear(1, 3);
        yard.enter(0, 0, 0, 0, 60);
        yard.enter(1, 8, 8, 0, 60);
        int[] spins = {20, 19, 17};
        int[] leans = {0, 1, 2};
        for (int tick = 0; tick < 3; tick++) {
            due.is(18, "SPIN of 0", yard.state(0, tick, 5), spins[tick]);
            due.is(18, "LEAN of 0", yard.state(0, tick, 6), leans[tick]);
        }
        due.is(18, "LEAN of 1 at first", yard.state(1, 0, 6), 3);
        due.is(18, "LEAN of 1", yard.state(1, 2, 6), 5);
        due.is(18, "SPIN of 1", yard.state(1, 1, 5), 15);
        due.is(18, "SPIN of 1 at its end", yard.state(1, 2, 5), 9);
        due.is(18, "how 1 is", yard.state(1, 1, 7), 0);
        due.is(18, "how 1 is, fallen without THE RING", yard.state(1, 2, 7), 2);
        due.is(15, "run()", yard.run(), 2);
        due.is(16, "winner()", yard.winner(), 0);
        due.is(18, "behind its end", yard.state(0, 400, 5), 17);
        yard.bowl(1, 30);
        due.is(18, "how 1 is, fallen within THE RING", yard.state(1, 2, 7), 3);
        yard.whip(1, 2, 1);
        // 15 and 1 less 2 less 4 is 10: it stands on; then 10 less 2 less 5 is 3.
        due.is(14, "SPIN of 1 with a WHIP", yard.state(1, 2, 5), 10);
        due.is(15, "run() with a WHIP", yard.run(), 3);
        // WHEN HEADING turns by 1 and LEAN of the tick: 1 and 2, then 1 and 3.
        due.is(18, "HEADING of 0", yard.state(0, 3, 2), 2 + 3 + 4);
        yard.string(0, 1);
        yard.string(1, 1);
        due.is(15, "run() of weakest", yard.run(), 1);
        due.is(16, "winner() of weakest", yard.winner(), Due.NONE);
    }

    /** They come from 0, 0 and 2, 0 with P 610, -685 to X 61, 62 behind step e of TICK 1. */
    private static TopYard meeting(int rimOfOther, int senseOfOther, int weightOfOther) {
        TopYard yard = new TopYard();
        yard.top(10, 2, 3, 1, 0);
        yard.top(weightOfOther, rimOfOther, 3, senseOfOther, 0);
        yard.enter(0, 0, 0, 0, 30);
        yard.enter(1, 2, 0, 18, 20);
        return yard;
    }

    private static void bounce() {
        TopYard yard = meeting(3, 1, 10);
        // K is -12950, twice that by 20 is -1295; SPINS 299, 199: 12 go over, each loses 1.
        states(yard, 0, 1, 61, 0, 1, 610 - 1295, 0, 299 - 12 - 1, 0, 0);
        states(yard, 1, 1, 62, 0, 19, -685 + 1295, 0, 199 + 12 - 1, 0, 0);
        TopYard unlike = meeting(3, -1, 10);
        due.is(18, "SPIN, SENSES unlike", unlike.state(0, 1, 5), 299 - 12 - 3);
        due.is(18, "SPIN, SENSES unlike", unlike.state(1, 1, 5), 199 + 12 - 3);
        TopYard heavy = meeting(3, 1, 30);
        // P of the other is -1950 - 240 = -2190, and 136; X 130 - 68. K is -20540 - 18300, 2 K by 40 is -1942.
        due.is(18, "P, unlike WEIGHTS", heavy.state(0, 1, 3), 610 - 1942);
        due.is(18, "P, unlike WEIGHTS", heavy.state(1, 1, 3), -2054 + 1942);
        due.is(17, "knocks(1), RIMS unlike", heavy.knocks(1), 0);
        if (heavy.knocks(0) < 1) due.is(17, "knocks(0)", heavy.knocks(0), 1);
    }

    private static void lock() {
        TopYard yard = meeting(2, 1, 10);
        // Together -75: times 10 by 20 is -37, the rest -38.
        states(yard, 0, 1, 61, 0, 1, -37, 0, 286, 0, 0);
        states(yard, 1, 1, 62, 0, 19, -38, 0, 210, 0, 0);
        due.is(17, "all KNOCKS are LOCKED", yard.knocks(0), yard.knocks(1));
        // RIMS of 1 reach 26; put at 4, 0 they are 61 and 130 - 76 = 114 apart less: no KNOCK in TICK 1.
        TopYard far = new TopYard();
        far.top(10, 1, 3, 1, 0);
        far.top(10, 1, 3, 1, 0);
        far.enter(0, 0, 0, 0, 30);
        far.enter(1, 4, 0, 18, 20);
        due.is(17, "SPIN without a KNOCK", far.state(0, 1, 5), 299);
        due.is(17, "SPIN without a KNOCK", far.state(1, 1, 5), 199);
    }

    private static void sameCell() {
        TopYard yard = new TopYard();
        yard.top(10, 2, 3, 1, 0);
        yard.top(10, 3, 3, 1, 0);
        yard.enter(0, 0, 0, 0, 30);
        yard.enter(1, 0, 0, 0, 30);
        // With P alike K is 0: no KNOCK, however near.
        due.is(17, "SPIN of those that go together", yard.state(0, 1, 5), 299);
        due.is(18, "X of those that go together", yard.state(1, 1, 0), 61);
        TopYard slower = new TopYard();
        slower.top(50, 12, 1, 1, 7);
        slower.top(1, 1, 9, -1, 6);
        slower.enter(0, 0, 0, 0, 60);
        slower.enter(1, 0, 0, 0, 60);
        // P 3250 less 203 by 50 is 60; 65 less 4 is 61: dx is 1, and they part.
        due.is(18, "X of 0", slower.state(0, 1, 0), 60);
        due.is(18, "X of 1", slower.state(1, 1, 0), 61);
        due.is(18, "SPIN of 0", slower.state(0, 1, 5), 379);
        // dx, dy 65, 0 where both are 0: unlike ways from one cell that end in one point.
        TopYard point = new TopYard();
        point.top(1, 2, 3, 1, 0);
        point.top(1, 3, 3, 1, 0);
        point.enter(0, 0, 0, 0, 30);
        point.enter(1, 2, 0, 18, 30);
        // 0 goes to 61; 1: P -65 - 8 = -73, and 4 is -69: X 130 - 69 = 61. K is -130 times 65, 2 K 65 by (2 times 4225) is -130.
        states(point, 0, 1, 61, 0, 1, 61 - 130, 0, 298, 0, 0);
        states(point, 1, 1, 61, 0, 19, -69 + 130, 0, 298, 0, 0);
    }

    private static void outOfBowl() {
        TopYard yard = four();
        yard.bowl(0, 5);
        yard.enter(0, 0, 0, 0, 30);
        yard.enter(1, 0, 9, 9, 30);
        due.is(18, "how 1 is at first", yard.state(1, 0, 7), 0);
        due.is(18, "how 1 is", yard.state(1, 1, 7), 1);
        due.is(15, "run()", yard.run(), 1);
        due.is(16, "winner()", yard.winner(), 0);
        due.is(18, "what is OUT keeps its SPIN", yard.state(1, 400, 5), 299);
        yard.enter(2, 30, 30, 0, 30);
        due.is(15, "run()", yard.run(), 1);
        due.is(16, "winner() of three", yard.winner(), 0);
        yard.clear();
        yard.enter(0, 9, 0, 0, 30);
        yard.enter(1, 0, 9, 9, 30);
        due.is(16, "winner() when all are OUT", yard.winner(), Due.NONE);
        // Just within: 325 along x is not above 5 times 65.
        TopYard edge = new TopYard();
        edge.bowl(0, 5);
        edge.top(1, 1, 1, 1, 0);
        edge.top(1, 1, 1, 1, 0);
        edge.dent(6, 0, 10);
        edge.enter(0, 5, 0, 9, 30);
        edge.enter(1, -5, 0, 27, 30);
        // SLOPE 20: P -40, and 2, X 325 - 38; Q 65 less 4: Y 61. Of 1 SLOPE -10: P 20 less 1.
        states(edge, 0, 1, 287, 61, 10, -38, 61, 299, 0, 0);
        states(edge, 1, 1, -306, -61, 28, 19, -61, 299, 0, 0);
    }

    private static void wholeLength() {
        TopYard yard = new TopYard();
        yard.top(36, 1, 1, 1, 0);
        yard.top(36, 1, 1, 1, 1);
        // A hill in the middle keeps them apart, so each loses 1 of SPIN a TICK.
        yard.dent(0, 0, 20);
        yard.dent(0, 0, 20);
        yard.enter(0, -2, 0, 26, 60);
        yard.enter(1, 2, 3, 4, 60);
        for (int k = 0; k < 8; k++) yard.whip(k % 2, 1, 100);
        due.is(15, "run() to the last TICK", yard.run(), 400);
        due.is(16, "winner() when both stand", yard.winner(), Due.NONE);
        due.is(17, "knocks(0)", yard.knocks(0), 0);
        due.is(18, "how 0 is", yard.state(0, 400, 7), 0);
        due.is(18, "how 1 is", yard.state(1, 400, 7), 0);
        due.is(18, "SPIN of 0", yard.state(0, 400, 5), 380 + 400 - 400);
        due.is(18, "HEADING of 0", yard.state(0, 400, 2), (26 + 400) % 36);
        due.is(18, "SPIN of 0, earlier", yard.state(0, 1, 5), 380 + 400 - 1);
    }

    /** LEAN pushes along the new HEADING. */
    private static void leanWays() {
        TopYard yard = new TopYard();
        yard.top(10, 1, 3, 1, 0);
        yard.top(10, 1, 3, -1, 0);
        yard.wear(0, 4);
        yard.wear(1, 9);
        yard.enter(0, 0, 0, 0, 30);
        yard.enter(1, 0, 0, 18, 30);
        // SPIN 300 less 1, 1, 4; LEAN 3; HEADING 4: P 650 and 24, less 42; Q 18, less 1.
        states(yard, 0, 1, 63, 1, 4, 632, 17, 294, 3, 0);
        // SPIN 300 less 1, 3, 4; LEAN 4 less 1; HEADING 14: P -650 less 24, and 42; Q 18, less 1.
        states(yard, 1, 1, -63, 1, 14, -632, 17, 292, 3, 0);
    }

    private static int leanBehindOne(int wear, int turns, int whip) {
        TopYard yard = new TopYard();
        yard.top(10, 1, 1, 1, 0);
        yard.top(10, 1, 1, 1, 0);
        yard.wear(0, wear);
        yard.enter(0, 0, 0, 0, turns);
        yard.enter(1, 5, 5, 0, 30);
        if (whip > 0) yard.whip(0, 1, whip);
        return yard.state(0, 1, 6);
    }

    private static void leanBounds() {
        // With WEAR 1 SPIN loses 2: 110 and 1, 110 and 2 come to 109, 110.
        due.is(18, "LEAN with SPIN 109", leanBehindOne(1, 11, 1), 1);
        due.is(18, "LEAN with SPIN 110", leanBehindOne(1, 11, 2), 0);
        // With WEAR 0 it loses 1.
        due.is(18, "LEAN with SPIN 49", leanBehindOne(0, 5, 0), 1);
        due.is(18, "LEAN with SPIN 50", leanBehindOne(0, 5, 1), 0);
        due.is(18, "LEAN with SPIN 299", leanBehindOne(0, 30, 0), 0);
        // WEAR 9: LEAN 4, SPIN loses 1, 2, 4: 150 and 0 comes to 143, 140 and 6 to 139.
        due.is(18, "LEAN with SPIN 143", leanBehindOne(9, 15, 0), 3);
        due.is(18, "LEAN with SPIN 139", leanBehindOne(9, 14, 6), 4);
    }

    private static void leanTooMuch() {
        TopYard yard = new TopYard();
        yard.top(10, 1, 1, 1, 0);
        yard.top(10, 1, 1, 1, 1);
        yard.string(0, 4);
        yard.enter(0, 0, 0, 0, 30);
        yard.enter(1, 8, 0, 9, 30);
        yard.whip(0, 8, 30);
        int[] spins = {40, 39, 37, 34, 30, 25, 19, 12, 34, 25};
        for (int tick = 0; tick < 10; tick++) {
            due.is(18, "SPIN behind " + tick, yard.state(0, tick, 5), spins[tick]);
            due.is(18, "LEAN behind " + tick, yard.state(0, tick, 6), tick);
        }
        due.is(18, "it stands with LEAN 8", yard.state(0, 8, 7), 0);
        due.is(18, "it has fallen with LEAN 9", Math.min(2, yard.state(0, 9, 7)), 2);
        due.is(15, "run()", yard.run(), 9);
    }

    /** From -1, 0 a light one comes to 0, 0; with DENTS to where THE RING or the bowl just ends. */
    private static void edgesOfRingAndBowl() {
        TopYard yard = new TopYard();
        yard.top(1, 1, 1, 1, 0);
        yard.top(1, 1, 1, 1, 1);
        yard.string(0, 0);
        yard.bowl(1, 0);
        yard.enter(0, -1, 0, 0, 30);
        yard.enter(1, 0, 9, 0, 30);
        // LEAN 1 turns it by 2, and pushes by less than 1.
        states(yard, 0, 1, 0, 0, 2, 65, 0, 0, 1, 3);
        yard.clear();
        yard.dent(-1, 0, 2);
        yard.dent(5, 0, -10);
        yard.bowl(1, 1);
        yard.enter(0, 0, 0, 0, 30);
        yard.enter(1, 4, 0, 0, 30);
        states(yard, 0, 1, 65, 0, 2, 65, 0, 0, 1, 3);
        yard.bowl(1, 0);
        due.is(18, "THE RING is less", yard.state(0, 1, 7), 2);
        yard.bowl(0, 5);
        states(yard, 1, 1, 325, 0, 1, 65, 0, 299, 0, 0);
        yard.dent(5, 0, -1);
        states(yard, 1, 1, 327, 0, 1, 67, 0, 299, 0, 1);
    }

    /** As bounce() and lock(), turned by a quarter. */
    private static void alongY() {
        for (int rim = 2; rim <= 3; rim++) {
            TopYard yard = new TopYard();
            yard.top(10, 2, 3, 1, 0);
            yard.top(10, rim, 3, 1, 0);
            yard.enter(0, 0, 0, 9, 30);
            yard.enter(1, 0, 2, 27, 20);
            states(yard, 0, 1, 0, 61, 10, 0, rim == 2 ? -37 : -685, 286, 0, 0);
            states(yard, 1, 1, 0, 62, 28, 0, rim == 2 ? -38 : 610, 210, 0, 0);
        }
        // Without SPIN they KNOCK once, and fall.
        TopYard weak = new TopYard();
        weak.top(10, 12, 3, 1, 0);
        weak.top(10, 11, 3, 1, 0);
        weak.string(0, 0);
        weak.enter(0, 0, 0, 0, 30);
        weak.enter(1, 3, 0, 18, 30);
        due.is(17, "knocks(0)", weak.knocks(0), 1);
        due.is(18, "SPIN is 0 at least", weak.state(0, 1, 5), 0);
        due.is(18, "SPIN is 0 at least", weak.state(1, 1, 5), 0);
    }

    private static void strongStrings() {
        TopYard yard = four();
        yard.enter(0, 0, 0, 0, 60);
        yard.enter(1, 9, 9, 0, 7);
        due.is(18, "SPIN by PEG", yard.state(0, 0, 5), 340);
        due.is(18, "SPIN by TURNS", yard.state(1, 0, 5), 70);
        yard.string(0, 5);
        due.is(18, "SPIN by STRENGTH", yard.state(0, 0, 5), 50);
        yard.give(0, 1);
        due.is(18, "SPIN by the new OWNER's STRENGTH", yard.state(0, 0, 5), 340);
    }
}
