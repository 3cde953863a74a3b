import java.util.ArrayList;
import java.util.List;

/**
 * All that can be seen of a yard, but count() 8. It comes in parts, each for a yard of its own: a look
 * may spoil what it looks at, and an object is good for 512 calls only.
 */
final class Look {
    static final int PARTS = 8;
    private static final int[] TICKS = {0, 1, 3, 400};
    private static final int[] FAR = {-32, -31, 31, 32};
    private final TopYard yard;
    private final List<Long> seen = new ArrayList<>();

    private Look(TopYard yard) {
        this.yard = yard;
    }

    static List<Long> at(TopYard yard, int part) {
        Look look = new Look(yard);
        switch (part) {
            case 0: look.tops(); break;
            case 1: look.bowl(); break;
            case 2: look.bout(); break;
            case 3: look.choice(); break;
            case 4: look.past(); break;
            case 5: look.games(); break;
            case 6: look.sheets(); break;
            default: look.rest(); break;
        }
        return look.seen;
    }

    private void see(String name, int... numbers) {
        seen.add(Face.call(yard, Face.text(name, numbers)));
    }

    private void tops() {
        for (int t = 0; t < yard.count(0); t++) {
            for (int what = 0; what < 6; what++) see("about", t, what);
        }
        for (int owner = 0; owner < 8; owner++) see("string", owner, 7);
    }

    private void bowl() {
        for (int x = -4; x <= 4; x++) {
            for (int y = -4; y <= 4; y++) see("height", x, y, 0);
        }
        for (int x : FAR) {
            for (int y : FAR) see("height", x, y, 0);
        }
        see("bowl", 0, 9);
        see("bowl", 1, 9);
        see("smooth");
    }

    private void bout() {
        for (int place = 0; place < 4; place++) {
            for (int tick : TICKS) {
                for (int what = 0; what < 8; what++) see("state", place, tick, what);
            }
        }
        see("run");
        see("winner");
        see("knocks", 0);
        see("knocks", 1);
        see("clear");
    }

    private void choice() {
        pays();
        see("value");
        for (int i = 0; i < 4; i++) {
            see("mix", 0, i);
            see("mix", 1, i);
        }
        // What is filled tells which tops are rows and columns.
        see("fill");
        pays();
        see("choose");
    }

    private void pays() {
        for (int i = 0; i < 4; i++) {
            for (int j = 0; j < 4; j++) see("pays", i, j);
        }
    }

    private void past() {
        for (int t = 0; t < 6; t++) {
            for (int what = 0; what < 3; what++) see("worn", t, what);
        }
        see("most");
        for (int t = 0; t < 2; t++) {
            see("explained", t, 0);
            see("explained", t, 1);
        }
        see("forget");
    }

    private void games() {
        see("fault");
        for (int what = 0; what < 4; what++) see("played", what);
        for (int p = 0; p < 8; p++) {
            for (int q = p + 1; q < 8; q++) see("met", p, q);
        }
        for (int owner = 0; owner < 8; owner++) see("pairing", 255, owner);
        for (int owner = 0; owner < 3; owner++) see("bag", owner, 70, 0);
        see("play", 0, 1);
        for (int what = 0; what < 4; what++) see("played", what);
        for (int t = 0; t < yard.count(0); t++) see("about", t, 4);
        see("wipe");
    }

    private void sheets() {
        for (int s = 0; s < 4; s++) {
            for (int form = 0; form < 3; form++) {
                for (int i = 0; i < 21; i++) see("get", s, form, i);
            }
            see("lose", s);
        }
    }

    private void rest() {
        for (int what = 0; what < 11; what++) {
            if (what != 8) see("count", what);
        }
        see("digest");
    }
}
