import java.util.Arrays;

/** A top yard: tops, bouts, choices, bouts that were, games, meetings, bags and sheets. */
public final class TopYard {
    public static final int NONE = -1, BAD = -2, NOT = -3, FULL = -4;

    private static final int LEAST_INT = -2147483648;
    private static final int BAD_FIGURE = -1000;
    private static final int BAD_PAY = -100;
    private static final int MILLION = 1000000;

    private static final int NULL_FINDING = 1;
    private static final int INDEX_FINDING = 2;
    private static final int CAST_FINDING = 3;
    private static final int STORE_FINDING = 4;
    private static final int SIZE_FINDING = 5;

    private static final int OWNERS = 8;
    private static final int MOST_TOPS = 40;
    private static final int SHEETS = 4;
    private static final int USUAL_TURNS = 30;
    private static final int MOST_WEAR = 9;
    private static final int NO_RING = -1;

    private final Top[] tops = new Top[MOST_TOPS];
    private int topCount = 0;
    private final Bowl bowl = new Bowl();
    private final int[] strengths = new int[OWNERS];
    private final Bout bout = new Bout();
    // Duels run beside the yard's own bout, which must stay as it was put.
    private final Bout pair = new Bout();
    private final Choice choice = new Choice();
    private final Past past = new Past();
    private final Game game = new Game();
    private final int[] lastGame = new int[4];
    private final int[] meetings = new int[OWNERS * OWNERS];
    private final Pack pack = new Pack();
    private final Sheet[] sheets = new Sheet[SHEETS];
    private int latestFinding = 0;

    public TopYard() {
        Arrays.fill(strengths, 100);
        for (int s = 0; s < SHEETS; s++) {
            sheets[s] = new Sheet();
        }
    }

    // ---- tops, the bowl

    public int turn(int h, int what) {
        if (!within(h, 0, 35) || !within(what, 0, 1)) {
            return BAD_FIGURE;
        }
        return what == 0 ? Headings.alongX(h) : Headings.alongY(h);
    }

    public int top(int weight, int rim, int peg, int sense, int owner) {
        boolean shape = within(weight, 1, 50) && within(rim, 1, 12) && within(peg, 1, 9);
        if (!shape || (sense != 1 && sense != -1) || !isOwner(owner)) {
            return BAD;
        }
        if (topCount >= MOST_TOPS) {
            return FULL;
        }
        tops[topCount] = new Top(weight, rim, peg, sense, owner);
        topCount++;
        return topCount - 1;
    }

    public int about(int top, int what) {
        Top one = topAt(top);
        if (one == null) {
            return BAD_FIGURE;
        }
        switch (what) {
            case 0: return one.weight;
            case 1: return one.rim;
            case 2: return one.peg;
            case 3: return one.sense;
            case 4: return one.owner;
            case 5: return one.wear;
            default: return BAD_FIGURE;
        }
    }

    public int wear(int top, int w) {
        Top one = topAt(top);
        if (one == null || !within(w, 0, MOST_WEAR)) {
            return BAD;
        }
        int before = one.wear;
        one.wear = w;
        return before;
    }

    public int give(int top, int owner) {
        Top one = topAt(top);
        if (one == null || !isOwner(owner)) {
            return BAD;
        }
        int before = one.owner;
        one.owner = owner;
        return before;
    }

    public int bowl(int what, int radius) {
        if (what == 0 && within(radius, 5, 30)) {
            int before = bowl.radius;
            bowl.radius = radius;
            return before;
        }
        if (what == 1 && within(radius, 0, 30)) {
            int before = bowl.ring;
            bowl.ring = radius;
            return before;
        }
        return BAD;
    }

    public int dent(int x, int y, int higher) {
        if (!Bowl.mayDent(x, y) || !within(higher, -20, 20)) {
            return BAD;
        }
        return bowl.raise(x, y, higher) ? bowl.dents : FULL;
    }

    public int smooth() {
        int before = bowl.dents;
        bowl.flatten();
        return before;
    }

    public int height(int x, int y, int what) {
        if (!within(x, -32, 32) || !within(y, -32, 32)) {
            return LEAST_INT;
        }
        switch (what) {
            case 0: return bowl.heightAt(x, y);
            case 1: return bowl.slopeAlongX(x, y);
            case 2: return bowl.slopeAlongY(x, y);
            default: return LEAST_INT;
        }
    }

    public int string(int owner, int strength) {
        if (!isOwner(owner) || !within(strength, 0, 200)) {
            return BAD;
        }
        int before = strengths[owner];
        strengths[owner] = strength;
        return before;
    }

    // ---- bouts

    public int enter(int top, int x, int y, int heading, int turns) {
        Top one = topAt(top);
        boolean cell = within(x, -30, 30) && within(y, -30, 30);
        if (one == null || !cell || !within(heading, 0, 35) || !within(turns, 1, 60)) {
            return BAD;
        }
        if (bout.holds(top)) {
            return BAD;
        }
        Spinner spinner = bout.addSpinner(one, top);
        if (spinner == null) {
            return FULL;
        }
        spinner.set(x, y, heading, turns);
        return bout.size - 1;
    }

    public int clear() {
        int before = bout.size;
        bout.empty();
        return before;
    }

    public int whip(int place, int tick, int spin) {
        boolean when = within(place, 0, Bout.PLACES - 1) && within(tick, 1, Bout.LAST_TICK);
        if (!when || !within(spin, 1, 100)) {
            return BAD;
        }
        return bout.addWhip(place, tick, spin) ? bout.whips : FULL;
    }

    public int run() {
        if (bout.size < 2) {
            return NOT;
        }
        return spinBout(Bout.LAST_TICK);
    }

    public int winner() {
        if (bout.size < 2) {
            return NOT;
        }
        spinBout(Bout.LAST_TICK);
        return bout.lonePlace();
    }

    public int knocks(int what) {
        if (!within(what, 0, 1)) {
            return BAD;
        }
        if (bout.size < 2) {
            return NOT;
        }
        spinBout(Bout.LAST_TICK);
        return what == 0 ? bout.knockCount : bout.lockCount;
    }

    public int state(int place, int tick, int what) {
        Spinner spinner = bout.at(place);
        boolean asked = within(tick, 0, Bout.LAST_TICK) && within(what, 0, 7);
        if (spinner == null || !asked || bout.size < 2) {
            return LEAST_INT;
        }
        spinBout(tick);
        return spinner.figure(what);
    }

    // ---- choices

    public int choose() {
        int before = choice.rowCount + choice.columnCount;
        choice.begin();
        return before;
    }

    public int among(int what, int top) {
        if (!within(what, 0, 1) || topAt(top) == null) {
            return BAD;
        }
        return what == 0 ? choice.addRow(top) : choice.addColumn(top);
    }

    public int pay(int i, int j, int v) {
        if (!choice.has(i, j) || !within(v, -9, 9)) {
            return BAD_PAY;
        }
        int before = choice.pay[i][j];
        choice.pay[i][j] = v;
        return before;
    }

    public int pays(int i, int j) {
        return choice.has(i, j) ? choice.pay[i][j] : BAD_PAY;
    }

    public int fill() {
        if (choice.isOpen()) {
            return NOT;
        }
        int unlike = 0;
        for (int i = 0; i < choice.rowCount; i++) {
            for (int j = 0; j < choice.columnCount; j++) {
                int outcome = duel(choice.rowTops[i], choice.columnTops[j], USUAL_TURNS, NO_RING);
                choice.pay[i][j] = outcome;
                unlike += outcome == 0 ? 0 : 1;
            }
        }
        return unlike;
    }

    public int value() {
        if (choice.isOpen()) {
            return LEAST_INT;
        }
        choice.solve();
        return choice.valueInMillionths();
    }

    public int mix(int what, int i) {
        if (!within(what, 0, 1)) {
            return BAD;
        }
        int most = what == 0 ? choice.rowCount : choice.columnCount;
        if (!within(i, 0, most - 1)) {
            return BAD;
        }
        if (choice.isOpen()) {
            return NOT;
        }
        choice.solve();
        return choice.inMillionths(what == 0 ? choice.rowShares[i] : choice.columnShares[i]);
    }

    public int expected(int a, int b) {
        if (topAt(a) == null || topAt(b) == null) {
            return BAD_PAY;
        }
        return duel(a, b, USUAL_TURNS, NO_RING);
    }

    // ---- bouts that were

    public int was(int a, int b, int came) {
        if (!mayBeRow(a, b, came)) {
            return BAD;
        }
        return past.add(a, b, came) ? past.size : FULL;
    }

    public int forget() {
        int before = past.size;
        past.size = 0;
        return before;
    }

    public int read(int s) {
        Sheet from = sheetAt(s);
        if (from == null) {
            return BAD;
        }
        if (from.lost) {
            return find(NULL_FINDING);
        }
        int came = 0;
        for (int k = 0; k + 2 < from.length; k += 3) {
            int a = from.item(k);
            int b = from.item(k + 1);
            int outcome = from.item(k + 2);
            if (!mayBeRow(a, b, outcome) || !past.add(a, b, outcome)) {
                break;
            }
            came++;
        }
        return came;
    }

    public int worn(int top, int what) {
        if (topAt(top) == null || !within(what, 0, 2)) {
            return BAD;
        }
        foretellRows(top);
        switch (what) {
            case 0: return past.surprises(top);
            case 1: return past.chances(top);
            default: return past.doubt(top);
        }
    }

    public int most() {
        foretellRows(NONE);
        int found = NONE;
        int least = MILLION + 1;
        for (int t = 0; t < topCount; t++) {
            if (past.chances(t) > 0 && past.doubt(t) < least) {
                least = past.doubt(t);
                found = t;
            }
        }
        return found;
    }

    public int explained(int top, int what) {
        Top one = topAt(top);
        if (one == null || !within(what, 0, 1)) {
            return BAD;
        }
        int before = one.wear;
        int best = 0;
        int bestRows = -1;
        for (int w = 0; w <= MOST_WEAR; w++) {
            one.wear = w;
            foretellRows(top);
            int rows = past.rowsAsTold(top);
            if (rows > bestRows) {
                bestRows = rows;
                best = w;
            }
        }
        one.wear = before;
        return what == 0 ? best : bestRows;
    }

    // ---- games

    public int type(int b) {
        if (!within(b, 0, 255)) {
            return BAD;
        }
        return game.append(b) ? game.length : FULL;
    }

    public int wipe() {
        int before = game.length;
        game.length = 0;
        return before;
    }

    public int fault() {
        return game.parse();
    }

    public int play(int p, int q) {
        if (!isOwner(p) || !isOwner(q) || p == q) {
            return BAD;
        }
        if (game.parse() != NONE || topsOf(p) == 0 || topsOf(q) == 0) {
            return NOT;
        }
        playBouts(p, q);
        meetings[p * OWNERS + q]++;
        meetings[q * OWNERS + p]++;
        lastGame[3] = 0;
        if (lastGame[1] == lastGame[2]) {
            return NONE;
        }
        int victor = lastGame[1] > lastGame[2] ? p : q;
        lastGame[3] = keepTops(victor, victor == p ? q : p);
        return victor;
    }

    public int played(int what) {
        return within(what, 0, 3) ? lastGame[what] : BAD;
    }

    // ---- meetings, the bag

    public int met(int p, int q) {
        if (!isOwner(p) || !isOwner(q) || p == q) {
            return BAD;
        }
        return meetings[p * OWNERS + q];
    }

    public int pairing(int set, int owner) {
        if (!within(set, 1, 255) || Integer.bitCount(set) % 2 != 0) {
            return BAD;
        }
        if (!isOwner(owner) || (set >> owner & 1) == 0) {
            return BAD;
        }
        return mateInPairing(set, owner);
    }

    public int bag(int owner, int weight, int what) {
        if (!isOwner(owner) || !within(weight, 1, Pack.MOST_WEIGHT) || !within(what, 0, 2)) {
            return BAD;
        }
        pack.begin(weight);
        for (int t = 0; t < topCount; t++) {
            Top one = topAt(t);
            if (one != null && one.owner == owner) {
                pack.offer(one.weight, one.worth());
            }
        }
        int best = pack.bestWeight();
        switch (what) {
            case 0: return pack.bits[best];
            case 1: return pack.worths[best];
            default: return best;
        }
    }

    // ---- sheets

    public int sheet(int s, int form, int n) {
        Sheet one = sheetAt(s);
        if (one == null || !Sheet.isForm(form) || n > Sheet.MOST_ITEMS) {
            return BAD;
        }
        if (n < 0) {
            return find(SIZE_FINDING);
        }
        one.begin(form, n);
        return n;
    }

    public int lose(int s) {
        Sheet one = sheetAt(s);
        if (one == null) {
            return BAD;
        }
        if (one.lost) {
            return find(NULL_FINDING);
        }
        one.lost = true;
        return one.length;
    }

    public int put(int s, int form, int i, int v) {
        Sheet one = sheetAt(s);
        if (one == null || !Sheet.isForm(form)) {
            return BAD;
        }
        int finding = one.findingAt(form, i);
        if (finding != 0) {
            return find(finding);
        }
        one.store(i, v);
        return 1;
    }

    public int get(int s, int form, int i) {
        Sheet one = sheetAt(s);
        if (one == null || !Sheet.isForm(form)) {
            return LEAST_INT;
        }
        int finding = one.findingAt(form, i);
        if (finding != 0) {
            find(finding);
            return LEAST_INT;
        }
        return one.item(i);
    }

    public int copy(int s, int i, int t, int j, int n) {
        Sheet from = sheetAt(s);
        Sheet to = sheetAt(t);
        if (from == null || to == null) {
            return BAD;
        }
        if (from.lost || to.lost) {
            return find(NULL_FINDING);
        }
        if (from.form != to.form) {
            return find(STORE_FINDING);
        }
        if (!from.spans(i, n) || !to.spans(j, n)) {
            return find(INDEX_FINDING);
        }
        System.arraycopy(from.items, i, to.items, j, n);
        return 1;
    }

    public int write(int s, int tick) {
        Sheet to = sheetAt(s);
        if (to == null || !within(tick, 0, Bout.LAST_TICK)) {
            return BAD;
        }
        if (to.lost) {
            return find(NULL_FINDING);
        }
        if (bout.size < 2) {
            return NOT;
        }
        spinBout(tick);
        int n = Math.min(8 * bout.size, to.length);
        for (int k = 0; k < n; k++) {
            Spinner spinner = bout.at(k / 8);
            to.store(k, spinner == null ? 0 : spinner.figure(k % 8));
        }
        return n;
    }

    public int count(int what) {
        switch (what) {
            case 0: return topCount;
            case 1: return bowl.dents;
            case 2: return bout.size;
            case 3: return bout.whips;
            case 4: return choice.rowCount;
            case 5: return choice.columnCount;
            case 6: return past.size;
            case 7: return game.length;
            case 8: return latestFinding;
            case 9: return bowl.radius;
            case 10: return bowl.ring;
            default: return BAD;
        }
    }

    public long digest() {
        long h = 17;
        for (int what = 0; what <= 10; what++) {
            h = what == 8 ? h : 31 * h + count(what);
        }
        for (int t = 0; t < topCount; t++) {
            h = 31 * h + about(t, 4);
            h = 31 * h + about(t, 5);
        }
        for (int owner = 0; owner < OWNERS; owner++) {
            h = 31 * h + strengths[owner];
        }
        h = 31 * h + run();
        h = 31 * h + winner();
        h = 31 * h + value();
        for (int p = 0; p < OWNERS; p++) {
            for (int q = p + 1; q < OWNERS; q++) {
                h = 31 * h + meetings[p * OWNERS + q];
            }
        }
        return h;
    }

    // ---- what the calls share

    private static boolean within(int v, int least, int most) {
        return v >= least && v <= most;
    }

    private static boolean isOwner(int owner) {
        return owner >= 0 && owner < OWNERS;
    }

    private Top topAt(int top) {
        return top >= 0 && top < topCount && top < MOST_TOPS ? tops[top] : null;
    }

    private Sheet sheetAt(int s) {
        return s >= 0 && s < SHEETS ? sheets[s] : null;
    }

    private int find(int finding) {
        latestFinding = finding;
        return -10 - finding;
    }

    private int spinBout(int lastTick) {
        return bout.spinUntil(bowl, strengths, bowl.ring, lastTick);
    }

    /** 1: the first top wins, -1: the second does, 0: nobody. */
    private int duel(int a, int b, int turns, int ring) {
        Top first = topAt(a);
        Top second = topAt(b);
        if (first == null || second == null || a == b) {
            return 0;
        }
        pair.empty();
        Spinner one = pair.addSpinner(first, a);
        Spinner other = pair.addSpinner(second, b);
        if (one == null || other == null) {
            return 0;
        }
        one.set(-(bowl.radius / 2), 0, 9, turns);
        other.set(bowl.radius / 2, 0, 27, turns);
        pair.spinUntil(bowl, strengths, ring, Bout.LAST_TICK);
        int place = pair.lonePlace();
        if (place != NONE) {
            return place == 0 ? 1 : -1;
        }
        return (one.fellInRing() ? 1 : 0) - (other.fellInRing() ? 1 : 0);
    }

    private boolean mayBeRow(int a, int b, int came) {
        return topAt(a) != null && topAt(b) != null && a != b && within(came, -1, Past.LOST);
    }

    /** Tells the rows that speak of a top (NONE: of any) what was expected of them. */
    private void foretellRows(int top) {
        for (int r = 0; r < past.size; r++) {
            if (!past.speaks(r, top)) {
                continue;
            }
            // A duel is dear, and rows often repeat a pair.
            int like = past.firstLike(r);
            past.expectations[r] = like < r
                ? past.expectations[like]
                : duel(past.firsts[r], past.seconds[r], USUAL_TURNS, NO_RING);
        }
    }

    private int topsOf(int owner) {
        int found = 0;
        for (int t = 0; t < topCount; t++) {
            found += isTopOf(t, owner) ? 1 : 0;
        }
        return found;
    }

    private boolean isTopOf(int top, int owner) {
        Top one = topAt(top);
        return one != null && one.owner == owner;
    }

    private int nthTopOf(int owner, int n) {
        int left = n;
        for (int t = 0; t < topCount; t++) {
            if (isTopOf(t, owner)) {
                if (left == 0) {
                    return t;
                }
                left--;
            }
        }
        return NONE;
    }

    private void playBouts(int p, int q) {
        int ofP = Math.max(1, topsOf(p));
        int ofQ = Math.max(1, topsOf(q));
        int wonByP = 0;
        int wonByQ = 0;
        int m = 0;
        while (m < game.mostBouts() && wonByP < game.winsNeeded() && wonByQ < game.winsNeeded()) {
            int outcome = duel(nthTopOf(p, m % ofP), nthTopOf(q, m % ofQ), game.turns(), game.ring());
            wonByP += outcome > 0 ? 1 : 0;
            wonByQ += outcome < 0 ? 1 : 0;
            strengths[p] = Math.max(0, strengths[p] - 1);
            strengths[q] = Math.max(0, strengths[q] - 1);
            m++;
        }
        lastGame[0] = m;
        lastGame[1] = wonByP;
        lastGame[2] = wonByQ;
    }

    private int keepTops(int victor, int other) {
        int kept = 0;
        for (int t = 0; t < topCount && kept < game.keeps(); t++) {
            Top one = topAt(t);
            if (one != null && one.owner == other) {
                one.owner = victor;
                kept++;
            }
        }
        return kept;
    }

    private int mateInPairing(int set, int owner) {
        int left = set;
        for (int pairs = OWNERS / 2; pairs > 0 && left != 0; pairs--) {
            int low = Integer.numberOfTrailingZeros(left);
            int mate = bestMate(left, low, pairs);
            if (mate == NONE) {
                return NONE;
            }
            if (owner == low) {
                return mate;
            }
            if (owner == mate) {
                return low;
            }
            left &= ~(1 << low | 1 << mate);
        }
        return NONE;
    }

    private int bestMate(int left, int low, int pairs) {
        int found = NONE;
        long least = 0;
        for (int mate = low + 1; mate < OWNERS; mate++) {
            if ((left >> mate & 1) != 0) {
                int rest = left & ~(1 << low | 1 << mate);
                long sum = costOfPair(meetings, low, mate) + leastCost(meetings, rest, pairs - 1);
                if (found == NONE || sum < least) {
                    found = mate;
                    least = sum;
                }
            }
        }
        return found;
    }

    private static long costOfPair(int[] meetings, int p, int q) {
        if (!isOwner(p) || !isOwner(q)) {
            return 0;
        }
        long times = meetings[p * OWNERS + q] + 1L;
        return times * times;
    }

    private static long leastCost(int[] meetings, int left, int pairs) {
        if (left == 0 || pairs <= 0) {
            return 0;
        }
        int low = Integer.numberOfTrailingZeros(left);
        long least = -1;
        for (int mate = low + 1; mate < OWNERS; mate++) {
            if ((left >> mate & 1) != 0) {
                int rest = left & ~(1 << low | 1 << mate);
                long sum = costOfPair(meetings, low, mate) + leastCost(meetings, rest, pairs - 1);
                least = least < 0 || sum < least ? sum : least;
            }
        }
        return Math.max(0, least);
    }

    /** The ways of the 36 headings. */
    static final class Headings {
        static final int ROUND = 36;
        private static final int[] QUARTER = {65, 63, 60, 56, 52, 39, 33, 25, 16, 0};

        static int alongX(int heading) {
            int half = heading > 18 ? ROUND - heading : heading;
            if (half < 0 || half > 18) {
                return 0;
            }
            return half > 9 ? -QUARTER[18 - half] : QUARTER[half];
        }

        static int alongY(int heading) {
            return alongX(heading < 9 ? heading + ROUND - 9 : heading - 9);
        }
    }

    static final class Top {
        final int weight;
        final int rim;
        final int peg;
        final int sense;
        int owner;
        int wear = 0;

        Top(int weight, int rim, int peg, int sense, int owner) {
            this.weight = weight;
            this.rim = rim;
            this.peg = peg;
            this.sense = sense;
            this.owner = owner;
        }

        int worth() {
            return rim * 3 + 10 - peg - wear;
        }
    }

    static final class Bowl {
        private static final int REACH = 31;
        private static final int SIDE = 63;
        private static final int MOST_DENTS = 24;

        int radius = 12;
        int ring = 4;
        int dents = 0;
        // Summed by cells, so that a slope costs the same however many dents there are.
        private final int[] raised = new int[SIDE * SIDE];

        static boolean mayDent(int x, int y) {
            return x >= -REACH && x <= REACH && y >= -REACH && y <= REACH;
        }

        boolean raise(int x, int y, int higher) {
            if (dents >= MOST_DENTS || !mayDent(x, y)) {
                return false;
            }
            raised[(x + REACH) * SIDE + y + REACH] += higher;
            dents++;
            return true;
        }

        void flatten() {
            Arrays.fill(raised, 0);
            dents = 0;
        }

        int heightAt(int x, int y) {
            int round = (x * x + y * y) / 2;
            if (x < -REACH || x > REACH || y < -REACH || y > REACH) {
                return round;
            }
            return round + raised[(x + REACH) * SIDE + y + REACH];
        }

        int slopeAlongX(int x, int y) {
            return heightAt(x + 1, y) - heightAt(x - 1, y);
        }

        int slopeAlongY(int x, int y) {
            return heightAt(x, y + 1) - heightAt(x, y - 1);
        }
    }

    /** A top at its place of a bout: how it was put, and how it is behind a tick. */
    static final class Spinner {
        static final int UNIT = 65;
        private static final int STANDING = 0;
        private static final int OUT = 1;
        private static final int FALLEN = 2;
        private static final int FALLEN_IN_RING = 3;

        Top top = null;
        int number = NONE;
        private int cellX;
        private int cellY;
        private int firstHeading;
        private int turns;
        // Copied when a bout begins: a top does not change within one.
        int weight = 1;
        int rim;
        int sense;
        private int drag;
        // Long, as the squares and products of these pass an int.
        long x;
        long y;
        long p;
        long q;
        private int heading;
        int spin;
        private int lean;
        private int fate;

        void set(int x, int y, int heading, int turns) {
            cellX = x;
            cellY = y;
            firstHeading = heading;
            this.turns = turns;
        }

        void begin(int strength) {
            if (top == null) {
                fate = OUT;
                return;
            }
            weight = Math.max(1, top.weight);
            rim = top.rim;
            sense = top.sense;
            drag = 1 + (top.peg + top.wear) / 4;
            x = UNIT * cellX;
            y = UNIT * cellY;
            heading = firstHeading;
            p = weight * Headings.alongX(heading);
            q = weight * Headings.alongY(heading);
            spin = 10 * Math.min(Math.min(turns, 40 - 2 * top.peg), strength);
            lean = Math.min(top.wear, 4);
            fate = STANDING;
        }

        int owner() {
            return top == null ? NONE : top.owner;
        }

        boolean stands() {
            return fate == STANDING;
        }

        boolean fellInRing() {
            return fate == FALLEN_IN_RING;
        }

        void slow() {
            spin = Math.max(0, spin - drag - lean);
        }

        void tilt() {
            if (spin >= 100 + 10 * lean) {
                lean = Math.max(0, lean - 1);
            } else if (spin < 50) {
                lean++;
            }
        }

        void push(Bowl bowl) {
            int atX = (int) Math.floorDiv(x, (long) UNIT);
            int atY = (int) Math.floorDiv(y, (long) UNIT);
            p -= 2L * weight * bowl.slopeAlongX(atX, atY);
            q -= 2L * weight * bowl.slopeAlongY(atX, atY);
            heading = Math.floorMod(heading + sense * (1 + lean), Headings.ROUND);
            p += weight * lean * Headings.alongX(heading) / UNIT;
            q += weight * lean * Headings.alongY(heading) / UNIT;
        }

        void move() {
            p -= p / 16;
            q -= q / 16;
            if (weight > 0) {
                x += p / weight;
                y += q / weight;
            }
        }

        void leave(int radius) {
            if (!isWithin(radius)) {
                fate = OUT;
            }
        }

        void fall(int ring) {
            if (spin < 10 || lean > 8) {
                fate = ring >= 0 && isWithin(ring) ? FALLEN_IN_RING : FALLEN;
            }
        }

        private boolean isWithin(int radius) {
            long reach = (long) UNIT * radius;
            return x * x + y * y <= reach * reach;
        }

        int figure(int what) {
            switch (what) {
                case 0: return (int) x;
                case 1: return (int) y;
                case 2: return heading;
                case 3: return (int) p;
                case 4: return (int) q;
                case 5: return spin;
                case 6: return lean;
                default: return fate;
            }
        }
    }

    static final class Bout {
        static final int PLACES = 4;
        static final int LAST_TICK = 400;
        private static final int MOST_WHIPS = 8;

        private final Spinner[] spinners = new Spinner[PLACES];
        int size = 0;
        private final int[] whipPlaces = new int[MOST_WHIPS];
        private final int[] whipTicks = new int[MOST_WHIPS];
        private final int[] whipSpins = new int[MOST_WHIPS];
        int whips = 0;
        int knockCount = 0;
        int lockCount = 0;

        Bout() {
            for (int place = 0; place < PLACES; place++) {
                spinners[place] = new Spinner();
            }
        }

        void empty() {
            size = 0;
            whips = 0;
        }

        Spinner at(int place) {
            return place >= 0 && place < size && place < PLACES ? spinners[place] : null;
        }

        boolean holds(int number) {
            for (int place = 0; place < size; place++) {
                Spinner spinner = at(place);
                if (spinner != null && spinner.number == number) {
                    return true;
                }
            }
            return false;
        }

        /** The spinner of one place more; null if there is none left. */
        Spinner addSpinner(Top top, int number) {
            if (size >= PLACES) {
                return null;
            }
            size++;
            Spinner spinner = at(size - 1);
            if (spinner != null) {
                spinner.top = top;
                spinner.number = number;
            }
            return spinner;
        }

        boolean addWhip(int place, int tick, int spin) {
            if (whips >= MOST_WHIPS) {
                return false;
            }
            whipPlaces[whips] = place;
            whipTicks[whips] = tick;
            whipSpins[whips] = spin;
            whips++;
            return true;
        }

        /** Spins from the start to a tick, or to the end if that comes first; tells where it stopped. */
        int spinUntil(Bowl bowl, int[] strengths, int ring, int lastTick) {
            begin(strengths);
            for (int tick = 1; tick <= lastTick; tick++) {
                step(bowl, ring, tick);
                if (standing() <= 1) {
                    return tick;
                }
            }
            return lastTick;
        }

        int lonePlace() {
            if (standing() != 1) {
                return NONE;
            }
            for (int place = 0; place < size; place++) {
                if (standsAt(place)) {
                    return place;
                }
            }
            return NONE;
        }

        private void begin(int[] strengths) {
            knockCount = 0;
            lockCount = 0;
            for (int place = 0; place < size; place++) {
                Spinner spinner = at(place);
                if (spinner != null) {
                    int owner = spinner.owner();
                    spinner.begin(owner >= 0 && owner < strengths.length ? strengths[owner] : 0);
                }
            }
        }

        private boolean standsAt(int place) {
            Spinner spinner = at(place);
            return spinner != null && spinner.stands();
        }

        private int standing() {
            int found = 0;
            for (int place = 0; place < size; place++) {
                found += standsAt(place) ? 1 : 0;
            }
            return found;
        }

        private void step(Bowl bowl, int ring, int tick) {
            lash(tick);
            // Before they knock, tops do not touch one another, so each may go through these steps at once.
            for (int place = 0; place < size; place++) {
                Spinner spinner = at(place);
                if (spinner != null && spinner.stands()) {
                    spinner.slow();
                    spinner.tilt();
                    spinner.push(bowl);
                    spinner.move();
                    spinner.leave(bowl.radius);
                }
            }
            for (int i = 0; i < size; i++) {
                Spinner one = at(i);
                for (int j = i + 1; j < size; j++) {
                    Spinner other = at(j);
                    if (one != null && other != null && one.stands() && other.stands()) {
                        collide(one, other);
                    }
                }
            }
            for (int place = 0; place < size; place++) {
                Spinner spinner = at(place);
                if (spinner != null && spinner.stands()) {
                    spinner.fall(ring);
                }
            }
        }

        private void lash(int tick) {
            for (int k = 0; k < whips; k++) {
                Spinner spinner = at(whipPlaces[k]);
                if (whipTicks[k] == tick && spinner != null && spinner.stands()) {
                    spinner.spin += whipSpins[k];
                }
            }
        }

        private void collide(Spinner i, Spinner j) {
            long dx = j.x - i.x;
            long dy = j.y - i.y;
            if (dx == 0 && dy == 0) {
                dx = Spinner.UNIT;
            }
            long reach = 13L * (i.rim + j.rim);
            long apart = dx * dx + dy * dy;
            long k = (j.p * i.weight - i.p * j.weight) * dx + (j.q * i.weight - i.q * j.weight) * dy;
            if (apart > reach * reach || k >= 0) {
                return;
            }
            knockCount++;
            if (i.rim == j.rim) {
                lockCount++;
                lock(i, j);
            } else {
                bounce(i, j, 2 * k * dx, 2 * k * dy, apart);
            }
            passSpin(i, j);
        }

        private static void lock(Spinner i, Spinner j) {
            long p = i.p + j.p;
            long q = i.q + j.q;
            long both = i.weight + j.weight;
            if (both > 0) {
                i.p = p * i.weight / both;
                i.q = q * i.weight / both;
                j.p = p - i.p;
                j.q = q - i.q;
            }
        }

        private static void bounce(Spinner i, Spinner j, long alongX, long alongY, long apart) {
            long share = (i.weight + j.weight) * apart;
            if (share > 0) {
                long gainX = alongX / share;
                long gainY = alongY / share;
                i.p += gainX;
                j.p -= gainX;
                i.q += gainY;
                j.q -= gainY;
            }
        }

        private static void passSpin(Spinner i, Spinner j) {
            int passed = (i.spin - j.spin) / 8;
            int loss = i.sense == j.sense ? 1 : 3;
            i.spin = Math.max(0, i.spin - passed - loss);
            j.spin = Math.max(0, j.spin + passed - loss);
        }
    }

    static final class Choice {
        static final int MOST = 4;
        private static final int MASKS = 1 << MOST;
        // Makes all pay positive, so that the value is never 0 and a part that solves it exists.
        private static final int SHIFT = 20;

        int rowCount = 0;
        int columnCount = 0;
        final int[] rowTops = new int[MOST];
        final int[] columnTops = new int[MOST];
        final int[][] pay = new int[MOST][MOST];
        // The shares' numerators; total is what they are all parts of.
        final long[] rowShares = new long[MOST];
        final long[] columnShares = new long[MOST];
        // By the bits of their rows and columns.
        private final long[] determinants = new long[MASKS * MASKS];
        private long total = 1;
        private long determinant = 0;

        /** Pay is cleared here alone: nothing can be paid where there is no row or column yet. */
        void begin() {
            rowCount = 0;
            columnCount = 0;
            for (int i = 0; i < MOST; i++) {
                Arrays.fill(pay[i], 0);
            }
        }

        boolean isOpen() {
            return rowCount == 0 || columnCount == 0;
        }

        boolean has(int i, int j) {
            return i >= 0 && i < rowCount && j >= 0 && j < columnCount;
        }

        int addRow(int top) {
            if (rowCount >= MOST) {
                return FULL;
            }
            rowTops[rowCount] = top;
            rowCount++;
            return rowCount;
        }

        int addColumn(int top) {
            if (columnCount >= MOST) {
                return FULL;
            }
            columnTops[columnCount] = top;
            columnCount++;
            return columnCount;
        }

        int valueInMillionths() {
            return inMillionths(determinant - SHIFT * total);
        }

        int inMillionths(long part) {
            return total == 0 ? 0 : (int) Math.floorDiv(part * MILLION, total);
        }

        void solve() {
            findDeterminants();
            boolean solved = false;
            for (int size = 1; size <= MOST && !solved; size++) {
                solved = solveBySize(size);
            }
        }

        /** Of all square parts, each from those with one row less, which have lower bits. */
        private void findDeterminants() {
            determinants[0] = 1;
            for (int rows = 1; rows < MASKS; rows++) {
                for (int columns = 1; columns < MASKS; columns++) {
                    if (Integer.bitCount(rows) == Integer.bitCount(columns)) {
                        determinants[rows * MASKS + columns] = expand(rows, columns);
                    }
                }
            }
        }

        private long expand(int rows, int columns) {
            int i = Integer.numberOfTrailingZeros(rows);
            long sum = 0;
            long sign = 1;
            for (int j = 0; j < MOST && i < MOST; j++) {
                if ((columns >> j & 1) != 0) {
                    sum += sign * (pay[i][j] + SHIFT) * minor(rows, columns, i, j);
                    sign = -sign;
                }
            }
            return sum;
        }

        private long minor(int rows, int columns, int i, int j) {
            int at = (rows & ~(1 << i)) * MASKS + (columns & ~(1 << j));
            return at >= 0 && at < determinants.length ? determinants[at] : 0;
        }

        private boolean solveBySize(int size) {
            for (int rows = 1; rows < 1 << rowCount; rows++) {
                for (int columns = 1; columns < 1 << columnCount; columns++) {
                    boolean square = Integer.bitCount(rows) == size && Integer.bitCount(columns) == size;
                    if (square && solveByPart(rows, columns)) {
                        return true;
                    }
                }
            }
            return false;
        }

        private boolean solveByPart(int rows, int columns) {
            total = 0;
            for (int k = 0; k < MOST; k++) {
                rowShares[k] = 0;
                columnShares[k] = 0;
                for (int other = 0; other < MOST; other++) {
                    rowShares[k] += cofactor(rows, columns, k, other);
                    columnShares[k] += cofactor(rows, columns, other, k);
                }
                total += rowShares[k];
            }
            determinant = determinants[rows * MASKS + columns];
            if (total < 0) {
                changeSigns();
            }
            return total != 0 && noShareIsNegative() && holdsForRows() && holdsForColumns();
        }

        /** 0 outside the part, as such rows and columns have no share. */
        private long cofactor(int rows, int columns, int i, int j) {
            if ((rows >> i & 1) == 0 || (columns >> j & 1) == 0) {
                return 0;
            }
            int rowsAbove = Integer.bitCount(rows & ((1 << i) - 1));
            int columnsBefore = Integer.bitCount(columns & ((1 << j) - 1));
            long minor = minor(rows, columns, i, j);
            return (rowsAbove + columnsBefore) % 2 == 0 ? minor : -minor;
        }

        private void changeSigns() {
            total = -total;
            determinant = -determinant;
            for (int k = 0; k < MOST; k++) {
                rowShares[k] = -rowShares[k];
                columnShares[k] = -columnShares[k];
            }
        }

        private boolean noShareIsNegative() {
            for (int k = 0; k < MOST; k++) {
                if (rowShares[k] < 0 || columnShares[k] < 0) {
                    return false;
                }
            }
            return true;
        }

        private boolean holdsForColumns() {
            for (int j = 0; j < columnCount; j++) {
                long gain = 0;
                for (int i = 0; i < rowCount; i++) {
                    gain += (pay[i][j] + SHIFT) * rowShares[i];
                }
                if (gain < determinant) {
                    return false;
                }
            }
            return true;
        }

        private boolean holdsForRows() {
            for (int i = 0; i < rowCount; i++) {
                long gain = 0;
                for (int j = 0; j < columnCount; j++) {
                    gain += (pay[i][j] + SHIFT) * columnShares[j];
                }
                if (gain > determinant) {
                    return false;
                }
            }
            return true;
        }
    }

    /** The bouts that were, by rows. */
    static final class Past {
        static final int LOST = 2;
        private static final int MOST_ROWS = 40;

        int size = 0;
        final int[] firsts = new int[MOST_ROWS];
        final int[] seconds = new int[MOST_ROWS];
        private final int[] outcomes = new int[MOST_ROWS];
        final int[] expectations = new int[MOST_ROWS];

        boolean add(int a, int b, int came) {
            if (size >= MOST_ROWS) {
                return false;
            }
            firsts[size] = a;
            seconds[size] = b;
            outcomes[size] = came;
            size++;
            return true;
        }

        /** Whether a row is not lost and is of a top (NONE: of any). */
        boolean speaks(int row, int top) {
            if (row < 0 || row >= size || outcomes[row] == LOST) {
                return false;
            }
            return top == NONE || firsts[row] == top || seconds[row] == top;
        }

        /** The first row that is not lost and has the same tops in the same order. */
        int firstLike(int row) {
            for (int r = 0; r < row && row < size; r++) {
                if (outcomes[r] != LOST && firsts[r] == firsts[row] && seconds[r] == seconds[row]) {
                    return r;
                }
            }
            return row;
        }

        int surprises(int top) {
            int found = 0;
            for (int r = 0; r < size; r++) {
                if (speaks(r, top) && sided(outcomes[r], r, top) < sided(expectations[r], r, top)) {
                    found++;
                }
            }
            return found;
        }

        int chances(int top) {
            int found = 0;
            for (int r = 0; r < size; r++) {
                if (speaks(r, top) && sided(expectations[r], r, top) > -1) {
                    found++;
                }
            }
            return found;
        }

        int rowsAsTold(int top) {
            int found = 0;
            for (int r = 0; r < size; r++) {
                if (speaks(r, top) && outcomes[r] == expectations[r]) {
                    found++;
                }
            }
            return found;
        }

        int doubt(int top) {
            int n = chances(top);
            int least = surprises(top);
            long ways = 0;
            long choices = 1;
            for (int k = 0; k <= n; k++) {
                ways += k >= least ? choices : 0;
                choices = choices * (n - k) / (k + 1);
            }
            // At most 2 to the 40 times a million, which a long holds; the shift rounds down.
            return (int) (ways * MILLION >> n);
        }

        private int sided(int outcome, int row, int top) {
            return firsts[row] == top ? outcome : -outcome;
        }
    }

    /** A game's text and what it says. */
    static final class Game {
        private static final int MOST_BYTES = 40;
        private static final char[] LETTERS = {'w', 'b', 'r', 't', 'k'};
        private static final int[] LEAST_NUMBERS = {1, 1, 0, 1, 0};
        private static final int[] MOST_NUMBERS = {9, 20, 30, 60, 3};
        private static final int[] USUAL_NUMBERS = {1, 5, NO_RING, USUAL_TURNS, 0};
        private static final int LETTER_COUNT = 5;

        int length = 0;
        private final int[] bytes = new int[MOST_BYTES];
        private final int[] numbers = new int[LETTER_COUNT];

        boolean append(int b) {
            if (length >= MOST_BYTES) {
                return false;
            }
            bytes[length] = b;
            length++;
            return true;
        }

        int winsNeeded() {
            return numbers[0];
        }

        int mostBouts() {
            return numbers[1];
        }

        int ring() {
            return numbers[2];
        }

        int turns() {
            return numbers[3];
        }

        int keeps() {
            return numbers[4];
        }

        /** Takes the numbers from the text; the place of its fault, or NONE. */
        int parse() {
            System.arraycopy(USUAL_NUMBERS, 0, numbers, 0, LETTER_COUNT);
            int seen = 0;
            int place = 0;
            // As a letter may come once, no text has more parts than there are letters.
            for (int part = 0; part <= LETTER_COUNT; part++) {
                int letter = letterAt(place);
                if (letter == NONE || (seen >> letter & 1) != 0) {
                    return place;
                }
                seen |= 1 << letter;
                int figures = figuresAt(place + 1);
                int number = numberAt(place + 1, figures);
                if (figures == 0 || number < LEAST_NUMBERS[letter] || number > MOST_NUMBERS[letter]) {
                    return place + 1;
                }
                numbers[letter] = number;
                place += 1 + figures;
                if (place >= length) {
                    return NONE;
                }
                if (byteAt(place) != ';') {
                    return place;
                }
                place++;
            }
            return place;
        }

        /** -1 behind the end, which is no byte. */
        private int byteAt(int place) {
            return place >= 0 && place < length && place < MOST_BYTES ? bytes[place] : -1;
        }

        private int letterAt(int place) {
            for (int k = 0; k < LETTER_COUNT; k++) {
                if (byteAt(place) == LETTERS[k]) {
                    return k;
                }
            }
            return NONE;
        }

        private int figuresAt(int place) {
            if (!isFigure(byteAt(place))) {
                return 0;
            }
            return isFigure(byteAt(place + 1)) ? 2 : 1;
        }

        private int numberAt(int place, int figures) {
            int number = 0;
            for (int k = 0; k < figures; k++) {
                number = 10 * number + byteAt(place + k) - '0';
            }
            return number;
        }

        private static boolean isFigure(int b) {
            return b >= '0' && b <= '9';
        }
    }

    /** The best bags by what they weigh exactly, from the tops offered so far. */
    static final class Pack {
        static final int MOST_WEIGHT = 500;
        private static final int MOST_OFFERS = 16;
        private static final int NO_BAG = LEAST_INT;

        final int[] worths = new int[MOST_WEIGHT + 1];
        final int[] bits = new int[MOST_WEIGHT + 1];
        private int limit = 0;
        private int offers = 0;

        void begin(int most) {
            limit = Math.max(0, Math.min(most, MOST_WEIGHT));
            offers = 0;
            Arrays.fill(worths, NO_BAG);
            Arrays.fill(bits, 0);
            worths[0] = 0;
        }

        void offer(int weight, int worth) {
            if (offers >= MOST_OFFERS || weight <= 0) {
                return;
            }
            // From the heaviest down, so that no bag holds the same top twice.
            for (int w = limit; w >= weight; w--) {
                int before = worths[w - weight];
                // Of like ones the bag that was there stays: its bits are lower without the new one.
                if (before != NO_BAG && before + worth > worths[w]) {
                    worths[w] = before + worth;
                    bits[w] = bits[w - weight] | 1 << offers;
                }
            }
            offers++;
        }

        int bestWeight() {
            int best = 0;
            for (int w = 1; w <= limit; w++) {
                best = worths[w] > worths[best] ? w : best;
            }
            return best;
        }
    }

    static final class Sheet {
        static final int MOST_ITEMS = 120;

        boolean lost = true;
        int form = 0;
        int length = 0;
        // Ints for every form: a new row then needs no new array.
        final int[] items = new int[MOST_ITEMS];

        static boolean isForm(int form) {
            return form >= 0 && form <= 2;
        }

        void begin(int newForm, int n) {
            lost = false;
            form = newForm;
            length = Math.max(0, Math.min(n, MOST_ITEMS));
            Arrays.fill(items, 0);
        }

        /** What stands against item i being used as of a form; 0 if nothing does. */
        int findingAt(int asForm, int i) {
            if (lost) {
                return NULL_FINDING;
            }
            if (asForm != form) {
                return CAST_FINDING;
            }
            return i >= 0 && i < length ? 0 : INDEX_FINDING;
        }

        boolean spans(int from, int n) {
            return from >= 0 && n >= 0 && (long) from + n <= length;
        }

        int item(int i) {
            return i >= 0 && i < length ? items[i] : 0;
        }

        void store(int i, int v) {
            if (i >= 0 && i < length) {
                items[i] = narrowed(v);
            }
        }

        private int narrowed(int v) {
            switch (form) {
                case 0: return (byte) v;
                case 1: return (short) v;
                default: return v;
            }
        }
    }
}
