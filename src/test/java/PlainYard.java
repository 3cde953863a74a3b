import java.math.BigInteger;
import java.util.ArrayList;
import java.util.List;

/**
 * The document once more, written to be read beside it and not to be quick: every step by itself,
 * every choice by trying all. AgainstPlainTest compares TopYard with it.
 */
final class PlainYard {
    static final int NONE = -1, BAD = -2, NOT = -3, FULL = -4, LEAST = Integer.MIN_VALUE;

    private final List<int[]> tops = new ArrayList<>(); // weight, rim, peg, sense, owner, wear
    private final List<int[]> dents = new ArrayList<>();
    private final List<int[]> entered = new ArrayList<>(); // top, x, y, heading, turns
    private final List<int[]> whips = new ArrayList<>(); // place, tick, spin
    private final List<Integer> rows = new ArrayList<>();
    private final List<Integer> columns = new ArrayList<>();
    private final int[][] pay = new int[4][4];
    private final List<int[]> were = new ArrayList<>();
    private final List<Integer> text = new ArrayList<>();
    private final int[] strength = {100, 100, 100, 100, 100, 100, 100, 100};
    private final int[][] met = new int[8][8];
    private int[] lastPlay = {0, 0, 0, 0};
    private final Object[] sheets = new Object[4];
    private int radius = 12, ring = 4, finding = 0;

    // ---------------------------------------------------------------- bouts

    /** One top of a running bout. */
    private static final class Spun {
        long x, y, p, q, w, r, g, wear, spin, lean;
        int heading, sense, how;

        long figure(int what) {
            return new long[] {x, y, heading, p, q, spin, lean, how}[what];
        }
    }

    /** A bout that has been run up to a tick, or to its end. */
    private static final class Ran {
        final List<Spun> all = new ArrayList<>();
        int tick, knocks, locks;

        List<Spun> standing() {
            List<Spun> up = new ArrayList<>();
            for (Spun s : all) {
                if (s.how == 0) up.add(s);
            }
            return up;
        }

        int winner() {
            return standing().size() == 1 ? all.indexOf(standing().get(0)) : NONE;
        }
    }

    static int c(int heading) {
        int[] told = {65, 63, 60, 56, 52, 39, 33, 25, 16, 0};
        for (int h = 0; h <= 9; h++) {
            if (heading == h || heading == 36 - h) return told[h];
            if (heading == 18 - h || heading == 18 + h) return -told[h];
        }
        throw new IllegalStateException("no heading " + heading);
    }

    static int s(int heading) {
        return c((heading + 27) % 36);
    }

    private int heightOf(int x, int y) {
        int sum = (x * x + y * y) / 2;
        for (int[] d : dents) {
            if (d[0] == x && d[1] == y) sum += d[2];
        }
        return sum;
    }

    private int slope(int x, int y, boolean alongX) {
        return alongX ? heightOf(x + 1, y) - heightOf(x - 1, y) : heightOf(x, y + 1) - heightOf(x, y - 1);
    }

    private Ran spin(List<int[]> put, List<int[]> lashes, int ringRadius, int lastTick) {
        Ran ran = new Ran();
        for (int[] e : put) {
            int[] t = tops.get(e[0]);
            Spun s = new Spun();
            s.w = t[0];
            s.r = t[1];
            s.g = t[2];
            s.sense = t[3];
            s.wear = t[5];
            s.x = 65L * e[1];
            s.y = 65L * e[2];
            s.heading = e[3];
            s.p = s.w * c(e[3]);
            s.q = s.w * s(e[3]);
            s.spin = 10 * Math.min(e[4], Math.min(40 - 2 * s.g, strength[t[4]]));
            s.lean = Math.min(s.wear, 4);
            ran.all.add(s);
        }
        while (ran.tick < lastTick && (ran.tick == 0 || ran.standing().size() > 1)) {
            ran.tick++;
            oneTick(ran, lashes, ringRadius);
        }
        return ran;
    }

    private void oneTick(Ran ran, List<int[]> lashes, int ringRadius) {
        for (int[] lash : lashes) {
            if (lash[1] == ran.tick && lash[0] < ran.all.size() && ran.all.get(lash[0]).how == 0) {
                ran.all.get(lash[0]).spin += lash[2];
            }
        }
        for (Spun s : ran.standing()) { // a
            s.spin = Math.max(0, s.spin - 1 - (s.g + s.wear) / 4 - s.lean);
        }
        for (Spun s : ran.standing()) { // b
            if (s.spin >= 100 + 10 * s.lean) s.lean = Math.max(0, s.lean - 1);
            else if (s.spin < 50) s.lean = s.lean + 1;
        }
        for (Spun s : ran.standing()) { // c
            int cellX = (int) Math.floor(s.x / 65.0);
            int cellY = (int) Math.floor(s.y / 65.0);
            s.p -= 2 * s.w * slope(cellX, cellY, true);
            s.q -= 2 * s.w * slope(cellX, cellY, false);
            s.heading = (int) (((s.heading + s.sense * (1 + s.lean)) % 36 + 36) % 36);
            s.p += s.w * s.lean * c(s.heading) / 65;
            s.q += s.w * s.lean * s(s.heading) / 65;
        }
        for (Spun s : ran.standing()) { // d
            s.p -= s.p / 16;
            s.q -= s.q / 16;
        }
        for (Spun s : ran.standing()) { // e
            s.x += s.p / s.w;
            s.y += s.q / s.w;
        }
        for (Spun s : ran.standing()) { // f
            if (s.x * s.x + s.y * s.y > 65L * radius * 65 * radius) s.how = 1;
        }
        for (int i = 0; i < ran.all.size(); i++) { // g
            for (int j = i + 1; j < ran.all.size(); j++) {
                if (ran.all.get(i).how == 0 && ran.all.get(j).how == 0) meet(ran, ran.all.get(i), ran.all.get(j));
            }
        }
        for (Spun s : ran.standing()) { // h
            if (s.spin < 10 || s.lean > 8) {
                s.how = s.x * s.x + s.y * s.y <= 65L * ringRadius * 65 * ringRadius ? 3 : 2;
            }
        }
    }

    private static void meet(Ran ran, Spun i, Spun j) {
        long dx = j.x - i.x, dy = j.y - i.y;
        if (dx == 0 && dy == 0) dx = 65;
        BigInteger k = big(j.p * i.w - i.p * j.w).multiply(big(dx)).add(big(j.q * i.w - i.q * j.w).multiply(big(dy)));
        long reach = 13 * (i.r + j.r);
        if (dx * dx + dy * dy > reach * reach || k.signum() >= 0) return;
        ran.knocks++;
        if (i.r == j.r) {
            ran.locks++;
            long p = i.p + j.p, q = i.q + j.q;
            i.p = p * i.w / (i.w + j.w);
            i.q = q * i.w / (i.w + j.w);
            j.p = p - i.p;
            j.q = q - i.q;
        } else {
            BigInteger under = big((i.w + j.w) * (dx * dx + dy * dy));
            long p = k.multiply(big(2 * dx)).divide(under).longValueExact();
            long q = k.multiply(big(2 * dy)).divide(under).longValueExact();
            i.p += p;
            j.p -= p;
            i.q += q;
            j.q -= q;
        }
        long b = (i.spin - j.spin) / 8;
        i.spin -= b;
        j.spin += b;
        long loss = i.sense == j.sense ? 1 : 3;
        i.spin = Math.max(0, i.spin - loss);
        j.spin = Math.max(0, j.spin - loss);
    }

    private static BigInteger big(long v) {
        return BigInteger.valueOf(v);
    }

    private Ran duel(int a, int b, int turns, int ringRadius) {
        List<int[]> put = new ArrayList<>();
        put.add(new int[] {a, -(radius / 2), 0, 9, turns});
        put.add(new int[] {b, radius / 2, 0, 27, turns});
        return spin(put, new ArrayList<>(), ringRadius, 400);
    }

    private int told(int a, int b) {
        if (a == b) return 0;
        int winner = duel(a, b, 30, ring).winner();
        return winner == 0 ? 1 : winner == 1 ? -1 : 0;
    }

    // ---------------------------------------------------------------- choices

    /** Numerators of the shares of rows, of columns, then T and the determinant; T above 0. */
    private BigInteger[][] solved() {
        int m = rows.size(), n = columns.size();
        for (int size = 1; size <= 4; size++) {
            for (int rowBits = 0; rowBits < 1 << m; rowBits++) {
                for (int columnBits = 0; columnBits < 1 << n; columnBits++) {
                    if (Integer.bitCount(rowBits) != size || Integer.bitCount(columnBits) != size) continue;
                    BigInteger[][] mix = mixOf(bitsOf(rowBits), bitsOf(columnBits));
                    if (mix != null) return mix;
                }
            }
        }
        throw new IllegalStateException("no mix");
    }

    private static List<Integer> bitsOf(int bits) {
        List<Integer> found = new ArrayList<>();
        for (int k = 0; k < 31; k++) {
            if ((bits >> k & 1) == 1) found.add(k);
        }
        return found;
    }

    private BigInteger[][] mixOf(List<Integer> rs, List<Integer> cs) {
        int size = rs.size();
        long[][] part = new long[size][size];
        for (int i = 0; i < size; i++) {
            for (int j = 0; j < size; j++) part[i][j] = pay[rs.get(i)][cs.get(j)] + 20;
        }
        long[][] adjoint = new long[size][size];
        long t = 0;
        for (int i = 0; i < size; i++) {
            for (int j = 0; j < size; j++) {
                adjoint[i][j] = determinant(without(part, j, i)) * ((i + j) % 2 == 0 ? 1 : -1);
                t += adjoint[i][j];
            }
        }
        if (t == 0) return null;
        long det = determinant(part);
        long sign = t < 0 ? -1 : 1;
        long[] x = new long[4], y = new long[4];
        for (int i = 0; i < size; i++) {
            for (int j = 0; j < size; j++) {
                x[rs.get(j)] += sign * adjoint[i][j];
                y[cs.get(i)] += sign * adjoint[i][j];
            }
        }
        return holds(x, y, sign * t, sign * det);
    }

    private BigInteger[][] holds(long[] x, long[] y, long t, long det) {
        BigInteger[][] mix = new BigInteger[3][4];
        for (int k = 0; k < 4; k++) {
            if (x[k] < 0 || y[k] < 0) return null;
            mix[0][k] = big(x[k]);
            mix[1][k] = big(y[k]);
        }
        mix[2][0] = big(t);
        mix[2][1] = big(det - 20 * t);
        for (int j = 0; j < columns.size(); j++) {
            long gain = 0;
            for (int i = 0; i < rows.size(); i++) gain += pay[i][j] * x[i];
            if (gain < det - 20 * t) return null;
        }
        for (int i = 0; i < rows.size(); i++) {
            long gain = 0;
            for (int j = 0; j < columns.size(); j++) gain += pay[i][j] * y[j];
            if (gain > det - 20 * t) return null;
        }
        return mix;
    }

    private static long[][] without(long[][] a, int row, int column) {
        int n = a.length - 1;
        long[][] less = new long[n][n];
        for (int i = 0; i < n; i++) {
            for (int j = 0; j < n; j++) less[i][j] = a[i < row ? i : i + 1][j < column ? j : j + 1];
        }
        return less;
    }

    private static long determinant(long[][] a) {
        if (a.length == 0) return 1;
        long sum = 0;
        for (int i = 0; i < a.length; i++) {
            sum += (i % 2 == 0 ? 1 : -1) * a[i][0] * determinant(without(a, i, 0));
        }
        return sum;
    }

    private static int millionths(BigInteger part, BigInteger whole) {
        BigInteger[] both = part.multiply(big(1000000)).divideAndRemainder(whole);
        return both[0].intValueExact() - (both[1].signum() < 0 ? 1 : 0);
    }

    // ---------------------------------------------------------------- bouts that were

    private int[] wornOf(int top) {
        int surprises = 0, chances = 0;
        for (int[] row : were) {
            if (row[2] == 2 || (row[0] != top && row[1] != top)) continue;
            int side = row[0] == top ? 1 : -1;
            int due = side * told(row[0], row[1]);
            if (side * row[2] < due) surprises++;
            if (due != -1) chances++;
        }
        BigInteger ways = BigInteger.ZERO;
        for (int k = surprises; k <= chances; k++) {
            BigInteger choose = BigInteger.ONE;
            for (int f = 1; f <= k; f++) choose = choose.multiply(big(chances - f + 1)).divide(big(f));
            ways = ways.add(choose);
        }
        int doubt = ways.multiply(big(1000000)).divide(BigInteger.TWO.pow(chances)).intValueExact();
        return new int[] {surprises, chances, doubt};
    }

    private int[] explainedOf(int top) {
        int before = tops.get(top)[5], best = -1, most = -1;
        for (int w = 0; w <= 9; w++) {
            tops.get(top)[5] = w;
            int right = 0;
            for (int[] row : were) {
                if (row[2] != 2 && (row[0] == top || row[1] == top) && told(row[0], row[1]) == row[2]) right++;
            }
            if (right > most) {
                most = right;
                best = w;
            }
        }
        tops.get(top)[5] = before;
        return new int[] {best, most};
    }

    private boolean isRow(int a, int b, int came) {
        return isTop(a) && isTop(b) && a != b && in(came, -1, 2);
    }

    // ---------------------------------------------------------------- games

    /** The fault, then the numbers of w, b, r, t, k. */
    private int[] gameNow() {
        StringBuilder told = new StringBuilder();
        for (int b : text) told.append((char) b);
        int[] said = {NONE, 1, 5, NONE, 30, 0};
        said[0] = faultOf(told.toString(), said);
        return said;
    }

    private static int faultOf(String told, int[] said) {
        String letters = "wbrtk";
        int[] least = {1, 1, 0, 1, 0}, most = {9, 20, 30, 60, 3};
        String seen = "";
        int at = 0;
        while (true) {
            if (at == told.length() || letters.indexOf(told.charAt(at)) < 0) return at;
            if (seen.indexOf(told.charAt(at)) >= 0) return at;
            seen += told.charAt(at);
            int letter = letters.indexOf(told.charAt(at));
            int first = ++at;
            while (at < told.length() && at < first + 2 && told.charAt(at) >= '0' && told.charAt(at) <= '9') at++;
            if (at == first) return at;
            int n = Integer.parseInt(told.substring(first, at));
            if (n < least[letter] || n > most[letter]) return first;
            said[letter + 1] = n;
            if (at == told.length()) return NONE;
            if (told.charAt(at++) != ';') return at - 1;
        }
    }

    private List<Integer> topsOf(int owner) {
        List<Integer> his = new ArrayList<>();
        for (int t = 0; t < tops.size(); t++) {
            if (tops.get(t)[4] == owner) his.add(t);
        }
        return his;
    }

    private int playNow(int p, int q, int[] said) {
        List<Integer> ps = topsOf(p), qs = topsOf(q);
        int bouts = 0, byP = 0, byQ = 0;
        while (bouts < said[2] && byP < said[1] && byQ < said[1]) {
            Ran ran = duel(ps.get(bouts % ps.size()), qs.get(bouts % qs.size()), said[4], Math.max(0, said[3]));
            int won = ran.winner();
            boolean first = ran.all.get(0).how == 3, second = ran.all.get(1).how == 3;
            if (won == NONE && said[3] != NONE && first != second) won = first ? 0 : 1;
            if (won == 0) byP++;
            if (won == 1) byQ++;
            strength[p] = Math.max(0, strength[p] - 1);
            strength[q] = Math.max(0, strength[q] - 1);
            bouts++;
        }
        met[p][q]++;
        met[q][p]++;
        int kept = 0;
        int winner = byP > byQ ? p : byQ > byP ? q : NONE;
        if (winner != NONE) {
            List<Integer> others = winner == p ? qs : ps;
            kept = Math.min(said[5], others.size());
            for (int k = 0; k < kept; k++) tops.get(others.get(k))[4] = winner;
        }
        lastPlay = new int[] {bouts, byP, byQ, kept};
        return winner;
    }

    // ---------------------------------------------------------------- meetings, the bag

    private void allPairings(List<Integer> left, List<int[]> pairs, List<List<int[]>> found) {
        if (left.isEmpty()) {
            found.add(new ArrayList<>(pairs));
            return;
        }
        for (int k = 1; k < left.size(); k++) {
            List<Integer> rest = new ArrayList<>(left);
            int mate = rest.remove(k);
            int least = rest.remove(0);
            pairs.add(new int[] {least, mate});
            allPairings(rest, pairs, found);
            pairs.remove(pairs.size() - 1);
        }
    }

    private int mateOf(int set, int owner) {
        List<List<int[]>> all = new ArrayList<>();
        allPairings(bitsOf(set), new ArrayList<>(), all); // in the order that ties are told by
        List<int[]> best = null;
        long least = Long.MAX_VALUE;
        for (List<int[]> pairs : all) {
            long sum = 0;
            for (int[] pair : pairs) sum += (long) (met[pair[0]][pair[1]] + 1) * (met[pair[0]][pair[1]] + 1);
            if (sum < least) {
                least = sum;
                best = pairs;
            }
        }
        for (int[] pair : best) {
            if (pair[0] == owner) return pair[1];
            if (pair[1] == owner) return pair[0];
        }
        throw new IllegalStateException("not paired");
    }

    private int[] bagOf(int owner, int limit) {
        List<Integer> his = topsOf(owner);
        int n = Math.min(16, his.size());
        int[] best = {0, 0, 0};
        for (int bits = 0; bits < 1 << n; bits++) {
            int worth = 0, weight = 0;
            for (int k = 0; k < n; k++) {
                if ((bits >> k & 1) == 1) {
                    int[] t = tops.get(his.get(k));
                    worth += 3 * t[1] + 10 - t[2] - t[5];
                    weight += t[0];
                }
            }
            if (weight > limit) continue;
            if (worth > best[1] || (worth == best[1] && weight < best[2])) best = new int[] {bits, worth, weight};
        }
        return best;
    }

    // ---------------------------------------------------------------- sheets

    private static int formOf(Object sheet) {
        return sheet instanceof byte[] ? 0 : sheet instanceof short[] ? 1 : 2;
    }

    private static int length(Object sheet) {
        return java.lang.reflect.Array.getLength(sheet);
    }

    private static int item(Object sheet, int i) {
        return ((Number) java.lang.reflect.Array.get(sheet, i)).intValue();
    }

    private static void store(Object sheet, int i, int v) {
        if (sheet instanceof byte[] bytes) bytes[i] = (byte) v;
        if (sheet instanceof short[] shorts) shorts[i] = (short) v;
        if (sheet instanceof int[] ints) ints[i] = v;
    }

    private int found(int number) {
        finding = number;
        return -10 - number;
    }

    private int itemFinding(Object sheet, int form, int i) {
        if (sheet == null) return 1;
        if (formOf(sheet) != form) return 3;
        return in(i, 0, length(sheet) - 1) ? 0 : 2;
    }

    // ---------------------------------------------------------------- the calls

    private static boolean in(int v, int least, int most) {
        return least <= v && v <= most;
    }

    private boolean isTop(int t) {
        return in(t, 0, tops.size() - 1);
    }

    /** Answers a call of the face by its name. */
    long call(String name, int... a) {
        switch (name) {
            case "turn": case "top": case "about": case "wear": case "give":
                return callTops(name, a);
            case "bowl": case "dent": case "smooth": case "height": case "string":
                return callBowl(name, a);
            case "enter": case "clear": case "whip": case "run": case "winner": case "knocks": case "state":
                return callBouts(name, a);
            case "choose": case "among": case "pay": case "pays": case "fill": case "value": case "mix":
            case "expected":
                return callChoices(name, a);
            case "was": case "forget": case "read": case "worn": case "most": case "explained":
                return callPast(name, a);
            case "type": case "wipe": case "fault": case "play": case "played":
                return callGames(name, a);
            case "met": case "pairing": case "bag":
                return callMeetings(name, a);
            case "count": case "digest":
                return name.equals("count") ? countOf(a[0]) : digestNow();
            default:
                return callSheets(name, a);
        }
    }

    private long callTops(String name, int[] a) {
        switch (name) {
            case "turn":
                return !in(a[0], 0, 35) || !in(a[1], 0, 1) ? -1000 : a[1] == 0 ? c(a[0]) : s(a[0]);
            case "top":
                if (!in(a[0], 1, 50) || !in(a[1], 1, 12) || !in(a[2], 1, 9) || !in(a[4], 0, 7)) return BAD;
                if (a[3] != 1 && a[3] != -1) return BAD;
                if (tops.size() == 40) return FULL;
                tops.add(new int[] {a[0], a[1], a[2], a[3], a[4], 0});
                return tops.size() - 1;
            case "about":
                return !isTop(a[0]) || !in(a[1], 0, 5) ? -1000 : tops.get(a[0])[a[1]];
            default:
                int field = name.equals("wear") ? 5 : 4;
                if (!isTop(a[0]) || !in(a[1], 0, field == 5 ? 9 : 7)) return BAD;
                int before = tops.get(a[0])[field];
                tops.get(a[0])[field] = a[1];
                return before;
        }
    }

    private long callBowl(String name, int[] a) {
        int before;
        switch (name) {
            case "bowl":
                if (!in(a[0], 0, 1) || !in(a[1], a[0] == 0 ? 5 : 0, 30)) return BAD;
                before = a[0] == 0 ? radius : ring;
                if (a[0] == 0) radius = a[1];
                else ring = a[1];
                return before;
            case "dent":
                if (!in(a[0], -31, 31) || !in(a[1], -31, 31) || !in(a[2], -20, 20)) return BAD;
                if (dents.size() == 24) return FULL;
                dents.add(a.clone());
                return dents.size();
            case "smooth":
                before = dents.size();
                dents.clear();
                return before;
            case "height":
                if (!in(a[0], -32, 32) || !in(a[1], -32, 32) || !in(a[2], 0, 2)) return LEAST;
                return a[2] == 0 ? heightOf(a[0], a[1]) : slope(a[0], a[1], a[2] == 1);
            default:
                if (!in(a[0], 0, 7) || !in(a[1], 0, 200)) return BAD;
                before = strength[a[0]];
                strength[a[0]] = a[1];
                return before;
        }
    }

    private long callBouts(String name, int[] a) {
        switch (name) {
            case "enter":
                if (!isTop(a[0]) || !in(a[1], -30, 30) || !in(a[2], -30, 30)) return BAD;
                if (!in(a[3], 0, 35) || !in(a[4], 1, 60)) return BAD;
                for (int[] e : entered) {
                    if (e[0] == a[0]) return BAD;
                }
                if (entered.size() == 4) return FULL;
                entered.add(a.clone());
                return entered.size() - 1;
            case "clear":
                int before = entered.size();
                entered.clear();
                whips.clear();
                return before;
            case "whip":
                if (!in(a[0], 0, 3) || !in(a[1], 1, 400) || !in(a[2], 1, 100)) return BAD;
                if (whips.size() == 8) return FULL;
                whips.add(a.clone());
                return whips.size();
            case "run":
                return entered.size() < 2 ? NOT : spin(entered, whips, ring, 400).tick;
            case "winner":
                return entered.size() < 2 ? NOT : spin(entered, whips, ring, 400).winner();
            case "knocks":
                if (!in(a[0], 0, 1)) return BAD;
                if (entered.size() < 2) return NOT;
                Ran ran = spin(entered, whips, ring, 400);
                return a[0] == 0 ? ran.knocks : ran.locks;
            default:
                if (!in(a[0], 0, entered.size() - 1) || !in(a[1], 0, 400) || !in(a[2], 0, 7)) return LEAST;
                return entered.size() < 2 ? LEAST : spin(entered, whips, ring, a[1]).all.get(a[0]).figure(a[2]);
        }
    }

    private long callChoices(String name, int[] a) {
        boolean open = rows.isEmpty() || columns.isEmpty();
        switch (name) {
            case "choose":
                int before = rows.size() + columns.size();
                rows.clear();
                columns.clear();
                return before;
            case "among":
                if (!in(a[0], 0, 1) || !isTop(a[1])) return BAD;
                List<Integer> side = a[0] == 0 ? rows : columns;
                if (side.size() == 4) return FULL;
                for (int k = 0; k < 4; k++) {
                    if (a[0] == 0) pay[side.size()][k] = 0;
                    else pay[k][side.size()] = 0;
                }
                side.add(a[1]);
                return side.size();
            case "pay": case "pays":
                if (!in(a[0], 0, rows.size() - 1) || !in(a[1], 0, columns.size() - 1)) return -100;
                int was = pay[a[0]][a[1]];
                if (name.equals("pays")) return was;
                if (!in(a[2], -9, 9)) return -100;
                pay[a[0]][a[1]] = a[2];
                return was;
            case "fill":
                return open ? NOT : fillNow();
            case "value":
                return open ? LEAST : millionths(solved()[2][1], solved()[2][0]);
            case "mix":
                if (!in(a[0], 0, 1) || !in(a[1], 0, (a[0] == 0 ? rows : columns).size() - 1)) return BAD;
                return open ? NOT : millionths(solved()[a[0]][a[1]], solved()[2][0]);
            default:
                return !isTop(a[0]) || !isTop(a[1]) ? -100 : told(a[0], a[1]);
        }
    }

    private int fillNow() {
        int unlike = 0;
        for (int i = 0; i < rows.size(); i++) {
            for (int j = 0; j < columns.size(); j++) {
                pay[i][j] = told(rows.get(i), columns.get(j));
                if (pay[i][j] != 0) unlike++;
            }
        }
        return unlike;
    }

    private long callPast(String name, int[] a) {
        int n = were.size();
        switch (name) {
            case "was":
                if (!isRow(a[0], a[1], a[2])) return BAD;
                if (n == 40) return FULL;
                were.add(a.clone());
                return were.size();
            case "forget":
                were.clear();
                return n;
            case "read":
                if (!in(a[0], 0, 3)) return BAD;
                if (sheets[a[0]] == null) return found(1);
                for (int k = 0; k + 3 <= length(sheets[a[0]]) && were.size() < 40; k += 3) {
                    int[] row = {item(sheets[a[0]], k), item(sheets[a[0]], k + 1), item(sheets[a[0]], k + 2)};
                    if (!isRow(row[0], row[1], row[2])) break;
                    were.add(row);
                }
                return were.size() - n;
            case "worn":
                return !isTop(a[0]) || !in(a[1], 0, 2) ? BAD : wornOf(a[0])[a[1]];
            case "most":
                int least = NONE;
                for (int t = 0; t < tops.size(); t++) {
                    if (wornOf(t)[1] > 0 && (least == NONE || wornOf(t)[2] < wornOf(least)[2])) least = t;
                }
                return least;
            default:
                return !isTop(a[0]) || !in(a[1], 0, 1) ? BAD : explainedOf(a[0])[a[1]];
        }
    }

    private long callGames(String name, int[] a) {
        switch (name) {
            case "type":
                if (!in(a[0], 0, 255)) return BAD;
                if (text.size() == 40) return FULL;
                text.add(a[0]);
                return text.size();
            case "wipe":
                int n = text.size();
                text.clear();
                return n;
            case "fault":
                return gameNow()[0];
            case "play":
                if (!in(a[0], 0, 7) || !in(a[1], 0, 7) || a[0] == a[1]) return BAD;
                if (gameNow()[0] != NONE || topsOf(a[0]).isEmpty() || topsOf(a[1]).isEmpty()) return NOT;
                return playNow(a[0], a[1], gameNow());
            default:
                return in(a[0], 0, 3) ? lastPlay[a[0]] : BAD;
        }
    }

    private long callMeetings(String name, int[] a) {
        switch (name) {
            case "met":
                return !in(a[0], 0, 7) || !in(a[1], 0, 7) || a[0] == a[1] ? BAD : met[a[0]][a[1]];
            case "pairing":
                if (!in(a[0], 1, 255) || bitsOf(a[0]).size() % 2 == 1 || !bitsOf(a[0]).contains(a[1])) return BAD;
                return mateOf(a[0], a[1]);
            default:
                return !in(a[0], 0, 7) || !in(a[1], 1, 500) || !in(a[2], 0, 2) ? BAD : bagOf(a[0], a[1])[a[2]];
        }
    }

    private long callSheets(String name, int[] a) {
        if (!in(a[0], 0, 3)) return name.equals("get") ? LEAST : BAD;
        Object sheet = sheets[a[0]];
        int fault;
        switch (name) {
            case "sheet":
                if (!in(a[1], 0, 2) || a[2] > 120) return BAD;
                if (a[2] < 0) return found(5);
                sheets[a[0]] = a[1] == 0 ? new byte[a[2]] : a[1] == 1 ? new short[a[2]] : new int[a[2]];
                return a[2];
            case "lose":
                if (sheet == null) return found(1);
                sheets[a[0]] = null;
                return length(sheet);
            case "put":
                if (!in(a[1], 0, 2)) return BAD;
                fault = itemFinding(sheet, a[1], a[2]);
                if (fault != 0) return found(fault);
                store(sheet, a[2], a[3]);
                return 1;
            case "get":
                if (!in(a[1], 0, 2)) return LEAST;
                fault = itemFinding(sheet, a[1], a[2]);
                if (fault == 0) return item(sheet, a[2]);
                found(fault);
                return LEAST;
            case "copy":
                if (!in(a[2], 0, 3)) return BAD;
                if (sheet == null || sheets[a[2]] == null) return found(1);
                if (formOf(sheet) != formOf(sheets[a[2]])) return found(4);
                return copyNow(sheet, a[1], sheets[a[2]], a[3], a[4]);
            case "write":
                if (!in(a[1], 0, 400)) return BAD;
                if (sheet == null) return found(1);
                if (entered.size() < 2) return NOT;
                int n = Math.min(8 * entered.size(), length(sheet));
                Ran ran = spin(entered, whips, ring, a[1]);
                for (int k = 0; k < n; k++) store(sheet, k, (int) ran.all.get(k / 8).figure(k % 8));
                return n;
            default:
                throw new IllegalStateException("no call " + name);
        }
    }

    private int copyNow(Object from, int i, Object to, int j, int n) {
        boolean negative = i < 0 || j < 0 || n < 0;
        if (negative || (long) i + n > length(from) || (long) j + n > length(to)) return found(2);
        int[] kept = new int[n];
        for (int k = 0; k < n; k++) kept[k] = item(from, i + k);
        for (int k = 0; k < n; k++) store(to, j + k, kept[k]);
        return 1;
    }

    private long countOf(int what) {
        int[] counts = {tops.size(), dents.size(), entered.size(), whips.size(), rows.size(), columns.size(),
            were.size(), text.size(), finding, radius, ring};
        return in(what, 0, 10) ? counts[what] : BAD;
    }

    private long digestNow() {
        List<Long> told = new ArrayList<>();
        for (int what : new int[] {0, 1, 2, 3, 4, 5, 6, 7, 9, 10}) told.add(countOf(what));
        for (int[] t : tops) {
            told.add((long) t[4]);
            told.add((long) t[5]);
        }
        for (int owner = 0; owner < 8; owner++) told.add((long) strength[owner]);
        told.add(call("run"));
        told.add(call("winner"));
        told.add(call("value"));
        for (int p = 0; p < 8; p++) {
            for (int q = p + 1; q < 8; q++) told.add((long) met[p][q]);
        }
        long h = 17;
        for (long v : told) h = 31 * h + v;
        return h;
    }
}
