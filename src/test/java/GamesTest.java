/** Promises 33 to 37: games. */
public final class GamesTest {
    private static final Due due = new Due();

    public static void main(String[] args) {
        typeAndWipe();
        faults();
        refusals();
        stringsWear();
        winsAndBouts();
        rings();
        turns();
        keeping();
        topsInRings();
        leastAndMostBouts();
        stringsAtTheirEnds();
        fewerToKeep();
        edgeOfRing();
        fallenInTheMiddle();
        allBytes();
        latestPlay();
        due.end();
    }

    private static void typeAndWipe() {
        TopYard yard = new TopYard();
        due.is(34, "wipe()", yard.wipe(), 0);
        due.is(33, "type(-1)", yard.type(-1), Due.BAD);
        due.is(33, "type(256)", yard.type(256), Due.BAD);
        for (int n = 1; n <= 40; n++) due.is(33, "type, byte " + n, yard.type(n == 1 ? 0 : 255), n);
        due.is(33, "type, one too many", yard.type(1), Due.FULL);
        due.is(33, "type, wrong when full", yard.type(256), Due.BAD);
        due.is(33, "count(7)", yard.count(7), 40);
        due.is(34, "wipe()", yard.wipe(), 40);
        due.is(34, "count(7)", yard.count(7), 0);
        due.is(34, "fault()", yard.fault(), 0);
    }

    private static void faultOf(String text, int want) {
        TopYard yard = new TopYard();
        Due.type(yard, text);
        due.is(35, "fault() of " + text, yard.fault(), want);
        due.is(35, "count(7)", yard.count(7), text.length());
    }

    private static void faults() {
        faultOf("", 0);
        for (String right : new String[] {"w1", "w9", "b1", "b20", "r0", "r30", "t1", "t60", "k0", "k3", "w01", "k00",
            "w2;b3;r4;t5;k1", "k3;t60;r30;b20;w09"}) {
            faultOf(right, Due.NONE);
        }
        for (String bad : new String[] {"w0", "w10", "b0", "b21", "r31", "t0", "t61", "k4", "w00", "w99", "w0x", "w123", "k", "w;",
            "w-1", "wx"}) {
            faultOf(bad, 1);
        }
        for (String bad : new String[] {"x1", "W1", ";w1", "1", " w1"}) faultOf(bad, 0);
        faultOf("b123", 3);
        faultOf("w1;", 3);
        faultOf("w1;;", 3);
        faultOf("w1;w1", 3);
        faultOf("w1;w", 3);
        faultOf("w1;q1", 3);
        faultOf("w1 ;b1", 2);
        faultOf("w1b1", 2);
        faultOf("w1;b", 4);
        faultOf("w1;b21", 4);
        faultOf("w1;b2x", 5);
        faultOf("w2;b3;r4;t5;k1;", 15);
        faultOf("w2;b3;r4;t5;k1;k1", 15);
        faultOf("w2;b3;r4;t5;w1", 12);
        faultOf("w1" + (char) 0, 2);
        faultOf("w1" + (char) 187, 2);
    }

    private static void refusals() {
        TopYard yard = Due.weakYard();
        due.is(36, "play(0, 1) of an empty one", yard.play(0, 1), Due.NOT);
        Due.type(yard, "w1");
        int[][] wrong = {{-1, 0}, {8, 0}, {0, -1}, {0, 8}, {0, 0}, {5, 5}};
        for (int[] a : wrong) due.is(36, "play, wrong", yard.play(a[0], a[1]), Due.BAD);
        due.is(36, "play(0, 2), who has no TOPS", yard.play(0, 2), Due.NOT);
        due.is(36, "play(2, 0), who has no TOPS", yard.play(2, 0), Due.NOT);
        Due.type(yard, ";");
        due.is(36, "play(0, 1) with a FAULT", yard.play(0, 1), Due.NOT);
        due.is(36, "play(0, 0) with a FAULT", yard.play(0, 0), Due.BAD);
        for (int what = 0; what < 4; what++) due.is(37, "played, before any", yard.played(what), 0);
        due.is(37, "played(-1)", yard.played(-1), Due.BAD);
        due.is(37, "played(4)", yard.played(4), Due.BAD);
        due.is(38, "met(0, 1)", yard.met(0, 1), 0);
        due.is(36, "STRENGTH stays", yard.string(0, 2), 2);
    }

    private static void playedIs(TopYard yard, int... want) {
        for (int what = 0; what < 4; what++) due.is(37, "played(" + what + ")", yard.played(what), want[what]);
    }

    /** The first BOUT has the STRINGS as they are, the second has them 1 weaker. */
    private static void stringsWear() {
        TopYard yard = Due.weakYard();
        yard.wear(1, 1);
        Due.type(yard, "b3;w2");
        due.is(36, "play(0, 1)", yard.play(0, 1), 0);
        playedIs(yard, 3, 1, 0, 0);
        due.is(36, "STRENGTH of 0", yard.string(0, 3), 0);
        due.is(36, "STRENGTH of 1", yard.string(1, 3), 0);
        due.is(36, "STRENGTH of 2", yard.string(2, 3), 100);
        // With 3 both FALL behind TICK 6 (SPIN 30 29 27 24 20 15 9; 30 28 25 21 16 10 3), with 2 as told.
        due.is(36, "play(1, 0)", yard.play(1, 0), 0);
        playedIs(yard, 3, 0, 1, 0);
        due.is(36, "play(1, 0), too weak both", yard.play(1, 0), Due.NONE);
        playedIs(yard, 3, 0, 0, 0);
        due.is(36, "STRENGTH of 0, not below 0", yard.string(0, 0), 0);
        due.is(36, "count(10)", yard.count(10), 4);
    }

    private static void winsAndBouts() {
        TopYard yard = Due.weakYard();
        yard.wear(0, 1);
        yard.string(0, 9);
        yard.string(1, 9);
        Due.type(yard, "t2");
        due.is(36, "play(0, 1), w 1", yard.play(0, 1), 1);
        playedIs(yard, 1, 0, 1, 0);
        yard.wear(1, 1);
        due.is(36, "play(0, 1), nobody wins, b 5", yard.play(0, 1), Due.NONE);
        playedIs(yard, 5, 0, 0, 0);
        due.is(36, "STRENGTH of 0", yard.string(0, 100), 3);
        yard.string(1, 100);
        yard.wear(1, 2);
        Due.type(yard, ";w9;b20");
        due.is(36, "play(1, 0), w 9", yard.play(1, 0), 0);
        playedIs(yard, 9, 0, 9, 0);
        due.is(36, "STRENGTH of 0", yard.string(0, 100), 91);
        due.is(38, "met(0, 1)", yard.met(0, 1), 3);
        yard.wipe();
        Due.type(yard, "w");
        yard.play(0, 1);
        playedIs(yard, 9, 0, 9, 0);
    }

    /**
     * Without STRENGTH both FALL in TICK 1, p's at -368, 60; q's at 368, -60 or, with the DENT, at
     * 405, -60. THE RING of 6 has the square 152100, of 5 105625, of 7 207025.
     */
    private static void rings() {
        TopYard yard = Due.weakYard();
        yard.string(0, 0);
        yard.string(1, 0);
        Due.type(yard, "r6");
        due.is(36, "play(0, 1), both FALL within", yard.play(0, 1), Due.NONE);
        yard.dent(7, 0, -20);
        due.is(36, "play(0, 1), just one FALLS within", yard.play(0, 1), 0);
        playedIs(yard, 1, 1, 0, 0);
        due.is(36, "play(1, 0), just one FALLS within", yard.play(1, 0), 1);
        yard.smooth();
        yard.dent(-7, 0, -20);
        due.is(36, "play(0, 1), just the other FALLS within", yard.play(0, 1), 1);
        due.is(36, "count(10)", yard.count(10), 4);
        yard.bowl(1, 6);
        due.is(26, "expected(0, 1) knows no such win", yard.expected(0, 1), 0);
        for (String text : new String[] {"r5", "r7", "r0", "w1"}) {
            yard.wipe();
            Due.type(yard, text);
            due.is(36, "play(0, 1) with " + text, yard.play(0, 1), Due.NONE);
        }
        // One who stands wins, though the other one fell within THE RING.
        yard.wipe();
        Due.type(yard, "r30");
        yard.string(0, 2);
        due.is(36, "play(0, 1), one stands", yard.play(0, 1), 0);
    }

    private static void turns() {
        TopYard yard = Due.weakYard();
        yard.wear(1, 1);
        yard.string(0, 100);
        yard.string(1, 100);
        Due.type(yard, "b1;t1");
        due.is(36, "play(0, 1) with t 1", yard.play(0, 1), Due.NONE);
        yard.wipe();
        Due.type(yard, "b1;t2");
        due.is(36, "play(0, 1) with t 2", yard.play(0, 1), 0);
        due.is(36, "play(1, 0) with t 2", yard.play(1, 0), 0);
    }

    private static TopYard keepers() {
        TopYard yard = new TopYard();
        for (int t = 0; t < 8; t++) yard.top(16, 1, 1, 1, t % 2 == 0 ? 0 : 1);
        for (int t = 1; t < 8; t += 2) yard.wear(t, 9);
        return yard;
    }

    private static void owners(TopYard yard, int... want) {
        for (int t = 0; t < want.length; t++) due.is(36, "OWNER of " + t, yard.about(t, 4), want[t]);
    }

    private static void keeping() {
        TopYard yard = keepers();
        Due.type(yard, "t2;k3");
        due.is(36, "play(0, 1), k 3", yard.play(0, 1), 0);
        playedIs(yard, 1, 1, 0, 3);
        owners(yard, 0, 0, 0, 0, 0, 0, 0, 1);
        due.is(36, "play(1, 0), k 3", yard.play(1, 0), 0);
        playedIs(yard, 1, 0, 1, 1);
        owners(yard, 0, 0, 0, 0, 0, 0, 0, 0);
        due.is(36, "play(1, 0), no TOPS left", yard.play(1, 0), Due.NOT);
        TopYard none = keepers();
        Due.type(none, "t2;k0");
        due.is(36, "play(0, 1), k 0", none.play(0, 1), 0);
        owners(none, 0, 1, 0, 1, 0, 1, 0, 1);
        TopYard draw = keepers();
        Due.type(draw, "t1;k3");
        due.is(36, "play(0, 1), nobody wins", draw.play(0, 1), Due.NONE);
        playedIs(draw, 5, 0, 0, 0);
        owners(draw, 0, 1, 0, 1, 0, 1, 0, 1);
    }

    private static void leastAndMostBouts() {
        String[] texts = {"t1;b1", "t1;b20", "t1;b20;w9", "t1"};
        int[] bouts = {1, 20, 20, 5};
        for (int k = 0; k < texts.length; k++) {
            TopYard yard = keepers();
            Due.type(yard, texts[k]);
            due.is(36, "play(0, 1), nobody wins, " + texts[k], yard.play(0, 1), Due.NONE);
            playedIs(yard, bouts[k], 0, 0, 0);
            due.is(36, "STRENGTH of 0", yard.string(0, 1), 100 - bouts[k]);
            due.is(36, "STRENGTH of 1", yard.string(1, 1), 100 - bouts[k]);
        }
        String[] won = {"t2;w1;b20", "t2;w2;b20", "t2;w9;b20", "t2;w9;b9", "t2;w9;b8", "t2;w2;b1", "t60;w9;b20"};
        int[] wins = {1, 2, 9, 9, 8, 1, 9};
        for (int k = 0; k < won.length; k++) {
            TopYard yard = keepers();
            Due.type(yard, won[k]);
            due.is(36, "play(0, 1), " + won[k], yard.play(0, 1), 0);
            playedIs(yard, wins[k], wins[k], 0, 0);
        }
    }

    private static void stringsAtTheirEnds() {
        TopYard yard = keepers();
        yard.string(0, 200);
        yard.string(1, 1);
        Due.type(yard, "t1;b2");
        // With SPIN 10, or 0, all FALL in TICK 1.
        due.is(36, "play(0, 1)", yard.play(0, 1), Due.NONE);
        due.is(36, "STRENGTH of 0, which was 200", yard.string(0, 0), 198);
        due.is(36, "STRENGTH of 1, which was 1", yard.string(1, 0), 0);
        due.is(36, "play(0, 1)", yard.play(0, 1), Due.NONE);
        due.is(36, "STRENGTH of 0, which was 0", yard.string(0, 2), 0);
        due.is(36, "STRENGTH of 1, which was 0", yard.string(1, 2), 0);
    }

    /** k n is the most that is kept: all are, if the other one has fewer. */
    private static void fewerToKeep() {
        for (int k = 0; k <= 3; k++) {
            for (int has = 1; has <= 5; has++) {
                TopYard yard = new TopYard();
                // TOP 0 is the loser's, the last one is the winner's.
                for (int t = 0; t < has; t++) {
                    yard.top(16, 1, 1, 1, 3);
                    yard.wear(t, 9);
                }
                yard.top(16, 1, 1, 1, 5);
                Due.type(yard, "t2;k" + k);
                boolean second = has % 2 == 0;
                due.is(36, "play of 3 and 5", second ? yard.play(3, 5) : yard.play(5, 3), 5);
                int kept = Math.min(k, has);
                playedIs(yard, 1, second ? 0 : 1, second ? 1 : 0, kept);
                for (int t = 0; t <= has; t++) due.is(36, "OWNER of " + t, yard.about(t, 4), t < kept || t == has ? 5 : 3);
                // A GAME that nobody wins tells of no kept ones.
                yard.wipe();
                Due.type(yard, "t1;k3;b1");
                int answer = yard.play(3, 5);
                due.is(36, "play(3, 5), nobody wins", answer, kept == has ? Due.NOT : Due.NONE);
                due.is(37, "played(3)", yard.played(3), kept == has ? kept : 0);
            }
        }
    }

    /** p's FALLS at -25, 60, which is 65 from the middle, or with another DENT at -25, 61 or so. */
    private static void edgeOfRing() {
        for (int more = 0; more < 2; more++) {
            TopYard yard = new TopYard();
            yard.bowl(0, 5);
            yard.top(1, 1, 1, 1, 0);
            yard.top(1, 1, 1, 1, 1);
            yard.string(0, 0);
            yard.string(1, 0);
            yard.dent(-1, 0, -20);
            yard.dent(-1, 0, -20);
            yard.dent(-1, 0, -12);
            yard.dent(-2, 1, 1 - more);
            yard.bowl(1, 1);
            yard.enter(0, -2, 0, 9, 30);
            yard.enter(1, 2, 0, 27, 30);
            due.is(18, "X of p's", yard.state(0, 1, 0), -25);
            due.is(18, "Y of p's", yard.state(0, 1, 1), more == 0 ? 60 : 61);
            due.is(18, "how p's is", yard.state(0, 1, 7), more == 0 ? 3 : 2);
            due.is(18, "how q's is", yard.state(1, 1, 7), 2);
            Due.type(yard, "r1");
            due.is(36, "play(0, 1)", yard.play(0, 1), more == 0 ? 0 : Due.NONE);
            playedIs(yard, more == 0 ? 1 : 5, 1 - more, 0, 0);
            yard.wipe();
            Due.type(yard, "r2");
            // q's at 122, -61 is more than 130 from the middle; p's is less, either way.
            due.is(36, "play(0, 1) with r 2", yard.play(0, 1), 0);
            yard.wipe();
            Due.type(yard, "r3");
            due.is(36, "play(0, 1) with r 3", yard.play(0, 1), Due.NONE);
        }
    }

    /** p's FALLS at 0, 0, within any RING; but without r no one wins so. */
    private static void fallenInTheMiddle() {
        String[] texts = {"r0", "r1", "w1", "b1;t30"};
        int[] winners = {0, 0, Due.NONE, Due.NONE};
        for (int k = 0; k < texts.length; k++) {
            TopYard yard = new TopYard();
            yard.bowl(0, 5);
            yard.bowl(1, 3 * k);
            yard.top(50, 1, 1, 1, 0);
            yard.top(50, 1, 1, 1, 1);
            yard.string(0, 0);
            yard.string(1, 0);
            // SLOPES -70, 33: P 7000 less 19 less a 16th by 50 is 130, Q 3250 less 3300 and 46 by 50 is 0.
            for (int higher : new int[] {-20, -20, -20, -6}) yard.dent(-1, 0, higher);
            for (int higher : new int[] {20, 13}) yard.dent(-2, 1, higher);
            yard.enter(0, -2, 0, 9, 30);
            yard.enter(1, 2, 0, 27, 30);
            due.is(18, "X of p's", yard.state(0, 1, 0), 0);
            due.is(18, "Y of p's", yard.state(0, 1, 1), 0);
            due.is(18, "how p's is", yard.state(0, 1, 7), 3);
            Due.type(yard, texts[k]);
            due.is(36, "play(0, 1) with " + texts[k], yard.play(0, 1), winners[k]);
            due.is(36, "count(10)", yard.count(10), 3 * k);
            due.is(26, "expected(0, 1)", yard.expected(0, 1), 0);
        }
    }

    /** Each byte as a letter, as the first figure, as the second, and behind a number. */
    private static void allBytes() {
        for (int b = 0; b < 256; b++) {
            boolean figure = b >= 48 && b <= 57;
            String one = Character.toString((char) b);
            faultOf(one, "wbrtk".contains(one) ? 1 : 0);
            faultOf("b" + one, figure && b > 48 ? Due.NONE : 1);
            faultOf("r" + one, figure ? Due.NONE : 1);
            faultOf("b1" + one, figure ? Due.NONE : b == ';' ? 3 : 2);
            faultOf("t6" + one, figure ? b == 48 ? Due.NONE : 1 : b == ';' ? 3 : 2);
            faultOf("b11" + one, b == ';' ? 4 : 3);
            faultOf("b11;" + one, "wrtk".contains(one) ? 5 : 4);
            faultOf("b1;k" + one, figure && b < 52 ? Due.NONE : 4);
        }
        // All numbers of one and two figures of each letter.
        int[] least = {1, 1, 0, 1, 0};
        int[] most = {9, 20, 30, 60, 3};
        for (int letter = 0; letter < 5; letter++) {
            for (int n = 0; n < 100; n++) {
                int want = n >= least[letter] && n <= most[letter] ? Due.NONE : 1;
                faultOf("wbrtk".charAt(letter) + Integer.toString(n), want);
                if (n < 10) faultOf("wbrtk".charAt(letter) + "0" + n, want);
            }
            // A letter that came before, wherever it came.
            String first = "wbrtk".charAt(letter) + "1";
            for (int other = 0; other < 5; other++) {
                faultOf(first + ";" + "wbrtk".charAt(other) + "1", other == letter ? 3 : Due.NONE);
            }
        }
        faultOf("w1;b1;r1;t1;k1;" + "x".repeat(25), 15);
        faultOf("w".repeat(40), 1);
        faultOf("b1;" + "b".repeat(37), 3);
    }

    /** played() is of the latest that told a winner or NONE; refused ones leave it. */
    private static void latestPlay() {
        TopYard yard = keepers();
        Due.type(yard, "t2;k2");
        due.is(36, "play(1, 0)", yard.play(1, 0), 0);
        playedIs(yard, 1, 0, 1, 2);
        due.is(36, "play(0, 0)", yard.play(0, 0), Due.BAD);
        due.is(36, "play(0, 7)", yard.play(0, 7), Due.NOT);
        playedIs(yard, 1, 0, 1, 2);
        due.is(38, "met(0, 7)", yard.met(0, 7), 0);
        yard.wipe();
        due.is(36, "play(0, 1) of an empty one", yard.play(0, 1), Due.NOT);
        playedIs(yard, 1, 0, 1, 2);
        due.is(38, "met(0, 1)", yard.met(0, 1), 1);
        Due.type(yard, "t1;k2;b3");
        due.is(36, "play(0, 1)", yard.play(0, 1), Due.NONE);
        playedIs(yard, 3, 0, 0, 0);
        due.is(38, "met(0, 1)", yard.met(0, 1), 2);
    }

    /** p has TOPS 0, 2, 4 of WEAR 0, 3, 1; q has 1, 3 of WEAR 1, 2. */
    private static void topsInRings() {
        TopYard yard = new TopYard();
        int[] wears = {0, 1, 3, 2, 1};
        for (int t = 0; t < 5; t++) {
            yard.top(16, 1, 1, 1, t % 2);
            yard.wear(t, wears[t]);
        }
        // p wins, q wins, nobody (1, 1), p wins (0, 2), q wins (3, 1), p wins (1, 2), then again.
        Due.type(yard, "t2;w9;b3");
        due.is(36, "play(0, 1), 3 BOUTS", yard.play(0, 1), Due.NONE);
        playedIs(yard, 3, 1, 1, 0);
        yard.wipe();
        Due.type(yard, "t2;w9;b6");
        due.is(36, "play(0, 1), 6 BOUTS", yard.play(0, 1), 0);
        playedIs(yard, 6, 3, 2, 0);
        yard.wipe();
        Due.type(yard, "t2;w2;b20");
        due.is(36, "play(1, 0), who first wins 2", yard.play(1, 0), 0);
        playedIs(yard, 4, 1, 2, 0);
    }
}
