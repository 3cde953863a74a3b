/** Compares answers with those that are due, and ends the program by how that went. */
final class Due {
    static final int NONE = -1, BAD = -2, NOT = -3, FULL = -4, LEAST = Integer.MIN_VALUE;
    private int wrong = 0;
    private int asked = 0;

    void is(int promise, String call, long got, long want) {
        asked++;
        if (got != want) {
            wrong++;
            System.out.println("promise " + promise + ": " + call + " answered " + got + ", due is " + want);
        }
    }

    void end() {
        System.out.println(wrong == 0 ? asked + " answers are as due" : wrong + " answers are not as due");
        if (wrong != 0) System.exit(1);
    }

    /** Types a game behind what is there. */
    static void type(TopYard yard, String text) {
        for (char b : text.toCharArray()) yard.type(b);
    }

    /**
     * Two tops of owners 0, 1 whose strings are so weak that all is told by their wears: they begin
     * with SPIN 20 and LEAN the lesser of WEAR and 4, and fall, never having met, behind TICK 5 with
     * WEAR 0, behind 4 with 1, 3 with 2, 2 with 3 to 9.
     */
    static TopYard weakYard() {
        TopYard yard = new TopYard();
        yard.top(16, 1, 1, 1, 0);
        yard.top(16, 1, 1, 1, 1);
        yard.string(0, 2);
        yard.string(1, 2);
        return yard;
    }
}
