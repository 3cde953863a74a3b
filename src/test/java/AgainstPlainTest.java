import java.lang.reflect.Method;
import java.util.ArrayList;
import java.util.Arrays;
import java.util.HashMap;
import java.util.List;
import java.util.Map;
import java.util.Random;

/** Long runs of drawn calls on TopYard and on PlainYard: each call must answer alike. */
public final class AgainstPlainTest {
    private static final int[] EDGES = {-1000, -33, -32, -31, -30, -21, -20, -10, -9, -2, -1, 0, 1, 2, 3, 4, 5, 7, 8, 9,
        10, 12, 13, 20, 21, 24, 30, 31, 32, 33, 35, 36, 40, 50, 51, 60, 61, 100, 101, 119, 120, 121, 200, 201, 255, 256,
        400, 401, 500, 501, Integer.MAX_VALUE, Integer.MIN_VALUE};
    // Calls whose answer says most are drawn more often.
    private static final String OFTEN = "top wear give bowl dent string enter enter enter whip run winner knocks state "
        + "state state among among pay pay pay fill value value mix mix expected was was was worn worn most explained "
        + "play play played met met pairing pairing bag bag sheet put get copy write read count digest";

    private final Map<String, Method> face = new HashMap<>();
    private final List<String> names = new ArrayList<>();
    private int wrong = 0;
    private final Map<String, Integer> good = new HashMap<>();

    public static void main(String[] args) throws Exception {
        int runs = args.length > 0 ? Integer.parseInt(args[0]) : 260;
        long seed = args.length > 1 ? Long.parseLong(args[1]) : 20261118L;
        AgainstPlainTest test = new AgainstPlainTest();
        for (int run = 0; run < runs && test.wrong < 5; run++) {
            if (run % 10 == 9) test.meetingRun(run, new Random(seed + run));
            else test.oneRun(run, new Random(seed + run));
        }
        test.checkCover();
        System.out.println(test.wrong == 0 ? "all answers are alike" : test.wrong + " answers differ");
        if (test.wrong != 0) System.exit(1);
    }

    private AgainstPlainTest() {
        for (Method m : TopYard.class.getDeclaredMethods()) {
            if (java.lang.reflect.Modifier.isPublic(m.getModifiers())) face.put(m.getName(), m);
        }
        names.addAll(new java.util.TreeSet<>(face.keySet()));
        names.addAll(Arrays.asList(OFTEN.split(" ")));
    }

    private void oneRun(int run, Random r) throws Exception {
        TopYard yard = new TopYard();
        PlainYard plain = new PlainYard();
        List<String> said = new ArrayList<>();
        int owners = 2 + r.nextInt(7);
        // Few rows, or the plain yard's most() takes its time.
        boolean quiet = r.nextInt(3) > 0;
        for (int n = r.nextInt(42); n > 0; n--) {
            both(run, yard, plain, said, "top", draw("top", r, owners, 1));
        }
        if (r.nextInt(3) == 0) game(run, yard, plain, said, r);
        while (said.size() < 512) {
            String name = names.get(r.nextInt(names.size()));
            if (name.equals("type") || name.equals("wipe")) {
                game(run, yard, plain, said, r);
                continue;
            }
            if (quiet && (name.equals("clear") || name.equals("choose") || name.equals("forget")) && r.nextInt(4) > 0) {
                continue;
            }
            if (plain.call("count", 6) > 6 && !quiet && name.equals("was")) name = "forget";
            both(run, yard, plain, said, name, draw(name, r, owners, (int) plain.call("count", 0)));
            if (wrong >= 5) return;
        }
    }

    /** Many games of all eight owners, so that pairings have much to weigh. */
    private void meetingRun(int run, Random r) throws Exception {
        TopYard yard = new TopYard();
        PlainYard plain = new PlainYard();
        List<String> said = new ArrayList<>();
        for (int t = 0; t < 24; t++) both(run, yard, plain, said, "top", draw("top", r, 8, 1));
        for (char b : "b1;t1".toCharArray()) both(run, yard, plain, said, "type", b);
        while (said.size() < 512 && wrong < 5) {
            String name = r.nextInt(3) > 0 ? "play" : r.nextInt(9) > 0 ? "pairing" : "met";
            both(run, yard, plain, said, name, drawGood(name, r, 8, 24));
            if (name.equals("pairing")) both(run, yard, plain, said, "pairing", 255, r.nextInt(8));
        }
    }

    /** Wipes the game, mostly, and types one that is right, nearly right, or noise. */
    private void game(int run, TopYard yard, PlainYard plain, List<String> said, Random r) throws Exception {
        if (r.nextInt(6) > 0) both(run, yard, plain, said, "wipe");
        StringBuilder text = new StringBuilder();
        List<Character> letters = new ArrayList<>(List.of('w', 'b', 'r', 't', 'k'));
        java.util.Collections.shuffle(letters, r);
        for (int n = r.nextInt(6); n > 0; n--) {
            if (text.length() > 0) text.append(';');
            char letter = letters.get(n - 1);
            int most = "wbrtk".indexOf(letter) == 0 ? 9 : letter == 'b' ? 20 : letter == 'r' ? 30 : letter == 't' ? 60 : 3;
            text.append(letter).append(1 + r.nextInt(r.nextInt(9) == 0 ? most + 2 : most));
        }
        if (r.nextInt(5) == 0 && text.length() > 0) {
            text.setCharAt(r.nextInt(text.length()), "wbrtk;0123456789xW ".charAt(r.nextInt(19)));
        }
        if (r.nextInt(20) == 0) text.append(";b1;w00;w01w12x;;r30;t60;k3;b20;r3;t8;9999");
        for (char b : text.toString().toCharArray()) both(run, yard, plain, said, "type", b);
        both(run, yard, plain, said, "fault");
        if (r.nextInt(9) == 0) both(run, yard, plain, said, "type", EDGES[r.nextInt(EDGES.length)]);
        both(run, yard, plain, said, "play", r.nextInt(4), r.nextInt(4));
    }

    private static int[] draw(String name, Random r, int owners, int tops) {
        int[] a = drawGood(name, r, owners, Math.max(1, tops));
        if (a.length > 0 && r.nextInt(12) == 0) a[r.nextInt(a.length)] = EDGES[r.nextInt(EDGES.length)];
        return a;
    }

    private static int[] drawGood(String name, Random r, int owners, int tops) {
        int t = r.nextInt(tops), u = r.nextInt(Math.min(tops, 6)), o = r.nextInt(owners);
        int cell = r.nextInt(r.nextInt(3) == 0 ? 31 : 7), other = r.nextInt(r.nextInt(3) == 0 ? 31 : 7);
        if (r.nextBoolean()) cell = -cell;
        if (r.nextBoolean()) other = -other;
        switch (name) {
            case "turn": return new int[] {r.nextInt(36), r.nextInt(2)};
            case "top": return new int[] {1 + r.nextInt(50), 1 + r.nextInt(12), 1 + r.nextInt(9), r.nextInt(2) * 2 - 1, o};
            case "about": return new int[] {t, r.nextInt(6)};
            case "wear": return new int[] {t, r.nextInt(10)};
            case "give": return new int[] {t, o};
            case "bowl": return new int[] {r.nextInt(2), 5 + r.nextInt(26)};
            case "dent": return new int[] {cell, other, r.nextInt(41) - 20};
            case "height": return new int[] {cell, other, r.nextInt(3)};
            case "string": return new int[] {o, r.nextInt(r.nextBoolean() ? 201 : 40)};
            case "enter": return new int[] {r.nextBoolean() ? u : t, cell, other, r.nextInt(36), 1 + r.nextInt(60)};
            case "whip": return new int[] {r.nextInt(4), 1 + r.nextInt(r.nextBoolean() ? 400 : 60), 1 + r.nextInt(100)};
            case "state": return new int[] {r.nextInt(4), r.nextInt(r.nextBoolean() ? 401 : 40), r.nextInt(8)};
            case "among": return new int[] {r.nextInt(2), t};
            case "pay": return new int[] {r.nextInt(4), r.nextInt(4), r.nextInt(19) - 9};
            case "was": return new int[] {u, r.nextBoolean() ? t : 0, r.nextInt(4) - 1};
            case "worn": return new int[] {u, r.nextInt(3)};
            case "expected": return new int[] {t, r.nextInt(tops)};
            case "bag": return new int[] {o, 1 + r.nextInt(r.nextBoolean() ? 500 : 120), r.nextInt(3)};
            case "pairing": return new int[] {r.nextInt(256), r.nextInt(8)};
            case "sheet": return new int[] {r.nextInt(4), r.nextInt(3), r.nextInt(r.nextBoolean() ? 121 : 9) - 1};
            case "put": return new int[] {r.nextInt(4), r.nextInt(3), r.nextInt(9),
                r.nextInt(3) == 0 ? r.nextInt() : r.nextInt(6) - 1};
            case "get": return new int[] {r.nextInt(4), r.nextInt(3), r.nextInt(9)};
            case "copy": return new int[] {r.nextInt(4), r.nextInt(5), r.nextInt(4), r.nextInt(5), r.nextInt(6)};
            case "write": return new int[] {r.nextInt(4), r.nextInt(r.nextBoolean() ? 401 : 30)};
            case "count": return new int[] {r.nextInt(11)};
            case "play": case "met": return new int[] {o, r.nextInt(owners)};
            case "knocks": return new int[] {r.nextInt(2)};
            case "lose": case "read": case "played": return new int[] {r.nextInt(4)};
            case "mix": return new int[] {r.nextInt(2), r.nextInt(4)};
            case "explained": return new int[] {u, r.nextInt(2)};
            case "pays": return new int[] {r.nextInt(4), r.nextInt(4)};
            default: return new int[0];
        }
    }

    private void both(int run, TopYard yard, PlainYard plain, List<String> said, String name, int... a) throws Exception {
        Object[] boxed = new Object[a.length];
        for (int k = 0; k < a.length; k++) boxed[k] = a[k];
        long got = ((Number) face.get(name).invoke(yard, boxed)).longValue();
        long want = plain.call(name, a);
        said.add(name + Arrays.toString(a) + " = " + want);
        if (want >= 0) good.merge(name, 1, Integer::sum);
        if (got != want) {
            wrong++;
            System.out.println("run " + run + ", call " + said.size() + ": " + name + Arrays.toString(a) + " answered "
                + got + ", plainly it is " + want);
            if (wrong == 1) said.forEach(line -> System.out.println("    " + line));
        }
    }

    /** A call that was never answered well has not been tested. */
    private void checkCover() {
        for (String name : face.keySet()) {
            if (good.getOrDefault(name, 0) < 100) {
                wrong++;
                System.out.println(name + " was answered well only " + good.getOrDefault(name, 0) + " times");
            }
        }
    }
}
