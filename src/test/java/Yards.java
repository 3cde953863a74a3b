/** Yards as texts of calls, for tests that make the same yard many times. */
final class Yards {
    private Yards() {
    }

    /** Typing of a game, as calls. */
    static String typing(String text) {
        StringBuilder calls = new StringBuilder();
        for (char b : text.toCharArray()) calls.append("type ").append((int) b).append("; ");
        return calls.toString();
    }

    /**
     * A yard in which there is something of everything, and room for more: TOPS 0 to 9 (2, 3, 4 in the
     * BOUT; each OWNER has one), ROWS 0, 1, COLUMNS 2, 3, 4, five rows of BOUTS THAT WERE, a GAME that
     * was PLAYED, SHEETS of 12 bytes, 20 shorts, 9 ints, 30 bytes. The latest FINDING is 5.
     */
    static String busy() {
        return "top 8 4 2 1 0; top 8 6 3 1 1; top 20 8 5 1 2; top 20 7 5 -1 3; top 5 3 2 1 4; top 6 5 4 -1 5; "
            + "top 9 2 9 1 6; top 30 9 6 1 7; top 12 5 1 -1 0; top 50 12 9 1 1; wear 1 2; wear 2 1; "
            + "bowl 0 14; bowl 1 6; dent 1 0 5; dent -2 3 -7; dent 0 0 2; string 1 90; "
            + "enter 2 -3 0 9 30; enter 3 3 1 27 40; enter 4 0 4 18 25; whip 0 2 20; whip 2 5 30; "
            + "among 0 0; among 0 1; among 1 2; among 1 3; among 1 4; "
            + "pay 0 0 3; pay 0 1 -2; pay 0 2 5; pay 1 0 -4; pay 1 1 6; pay 1 2 -1; "
            + "was 0 1 1; was 0 1 -1; was 1 0 0; was 2 0 1; was 0 2 2; "
            + typing("w2;b3;r4;t9;k1") + "play 0 1; "
            + "sheet 0 0 12; sheet 1 1 20; sheet 2 2 9; sheet 3 0 30; "
            + "put 0 0 0 -128; put 0 0 11 5; put 1 1 3 -300; put 1 1 19 9; put 2 2 0 70000; put 2 2 8 -1; "
            + "put 3 0 0 1; put 3 0 1 2; put 3 0 2 1; sheet 0 0 -1";
    }

    /** A yard that has no room for more of anything but SHEETS. */
    static String full() {
        StringBuilder calls = new StringBuilder();
        for (int t = 0; t < 40; t++) {
            calls.append(Face.text("top", 1 + t, 1 + t % 12, 1 + t % 9, t % 2 * 2 - 1, t % 8)).append("; ");
        }
        for (int n = 0; n < 24; n++) calls.append(Face.text("dent", n % 5 - 2, n % 7 - 3, n - 10)).append("; ");
        for (int t = 0; t < 4; t++) calls.append(Face.text("enter", t, 2 * t - 3, 2 - t, 9 * t, 40)).append("; ");
        for (int n = 0; n < 8; n++) calls.append(Face.text("whip", n % 4, 1 + n, 10 + n)).append("; ");
        for (int t = 0; t < 4; t++) calls.append(Face.text("among", 0, t)).append("; ");
        for (int t = 4; t < 8; t++) calls.append(Face.text("among", 1, t)).append("; ");
        for (int k = 0; k < 4; k++) calls.append(Face.text("pay", k, 3 - k, k - 6)).append("; ");
        for (int n = 0; n < 40; n++) calls.append(Face.text("was", n % 2, 2 + n % 3, n % 4 - 1)).append("; ");
        for (int s = 0; s < 4; s++) calls.append(Face.text("sheet", s, s % 3, 120)).append("; ");
        return calls + typing("w2;b3;r4;t9;k1" + "x".repeat(26)) + "sheet 0 0 -1";
    }
}
