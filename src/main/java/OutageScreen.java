/**
 * Contingency screening of a small power grid with the DC power flow model.
 *
 * All working rows are made once, in the constructor: no later call makes an object.
 */
public final class OutageScreen {
    public static final int NONE = -1, BAD = -2, NO = -3, FULL = -4;

    private static final int FEWEST_BUSES = 2;
    private static final int FIRST_BUSES = 4;
    private static final int MOST_BUSES = 6;
    private static final int MOST_LINES = 10;
    private static final int MOST_PAIRS = 45;
    private static final int MOST_INJECTION = 99;
    private static final int MOST_STRENGTH = 5;
    private static final int MOST_LIMIT = 999;
    private static final int MOST_TRANSFER = 9999;
    private static final int MOST_BYTES = 120;
    private static final int MOST_BYTE = 127;
    private static final int MOST_DIGITS = 3;
    private static final int MOST_NUMBERS = 4;
    private static final int MOST_KEPT = 8;

    // Euclid's algorithm on two longs needs fewer steps than this.
    private static final int MOST_DIVISIONS = 100;

    // These answers stand in place of BAD and NO, where those could be true values.
    private static final int NO_SUCH_BUS = -99999;
    private static final int NO_SUCH_LINE = -9999;
    private static final int NO_BRIDGE = -9998;
    private static final int FIRST_FAULT = -10;

    private static final long DIGEST_START = 1898;
    private static final long DIGEST_STEP = 31;

    private static final int BUS = 0;
    private static final int LINE = 1;
    private static final int OPEN = 2;
    private static final int CLOSE = 3;
    private static final int LIMIT = 4;
    private static final int STRENGTH = 5;
    private static final int DROP = 6;
    private static final int BEGIN = 7;
    private static final int KINDS = 8;

    private final Grid grid;
    private final Past past;
    private final Script script;
    private final Study study;
    private final Ranking ranking;
    private int bads;
    private int nos;
    private int fulls;

    public OutageScreen() {
        grid = new Grid();
        past = new Past();
        script = new Script();
        study = new Study(grid);
        ranking = new Ranking();
    }

    // ---- the grid

    public int begins(int n) {
        if (!Grid.canHave(n)) {
            return bad();
        }
        past.keep(grid);
        return grid.restart(n);
    }

    public int feeds(int i, int v) {
        if (!grid.canInject(i, v)) {
            return bad();
        }
        past.keep(grid);
        return grid.inject(i, v);
    }

    public int line(int a, int b, int strength, int limit) {
        if (!grid.canJoin(a, b, strength, limit)) {
            return bad();
        }
        if (grid.isFull()) {
            return full();
        }
        past.keep(grid);
        return grid.join(a, b, strength, limit);
    }

    public int drops(int l) {
        if (!grid.hasLine(l)) {
            return bad();
        }
        past.keep(grid);
        return grid.remove(l);
    }

    public int switches(int l, int on) {
        if (!grid.hasLine(l) || !isFlag(on)) {
            return bad();
        }
        past.keep(grid);
        return grid.turn(l, on == 1);
    }

    public int sets(int l, int what, int v) {
        if (!isFlag(what)) {
            return bad();
        }
        if (what == 0) {
            if (!grid.canStrengthen(l, v)) {
                return bad();
            }
            past.keep(grid);
            return grid.strengthen(l, v);
        }
        if (!grid.canBound(l, v)) {
            return bad();
        }
        past.keep(grid);
        return grid.bound(l, v);
    }

    public int of(int l, int what) {
        if (!grid.hasLine(l) || !within(what, 0, 5)) {
            return bad();
        }
        switch (what) {
            case 0:
                return grid.from[l];
            case 1:
                return grid.to[l];
            case 2:
                return grid.strength[l];
            case 3:
                return grid.limit[l];
            case 4:
                return grid.serves[l] ? 1 : 0;
            default:
                return isBridge(l) ? 1 : 0;
        }
    }

    // ---- flows

    public long flow(int l, int what) {
        if (!grid.hasLine(l) || !isFlag(what)) {
            return bad();
        }
        study.take(NONE, NONE);
        study.solve(NONE, NONE);
        return part(study.carried[l], study.whole, what);
    }

    public long angle(int i, int what) {
        if (!grid.hasBus(i) || !isFlag(what)) {
            return bad();
        }
        study.take(NONE, NONE);
        study.solve(NONE, NONE);
        return part(study.turned[i], study.whole, what);
    }

    public long factor(int l, int i, int what) {
        if (!grid.hasLine(l) || !grid.hasBus(i) || !isFlag(what)) {
            return bad();
        }
        study.take(NONE, NONE);
        study.solve(i, NONE);
        return part(study.probed[l], study.whole, what);
    }

    public int island(int i) {
        if (!grid.hasBus(i)) {
            return bad();
        }
        study.take(NONE, NONE);
        return study.slack[i];
    }

    public long trees(int i) {
        if (!grid.hasBus(i)) {
            return bad();
        }
        study.take(NONE, NONE);
        study.narrow(i);
        study.solve(NONE, NONE);
        return study.whole;
    }

    public int fed(int i) {
        if (!grid.hasBus(i)) {
            bad();
            return NO_SUCH_BUS;
        }
        study.take(NONE, NONE);
        if (study.slack[i] != i) {
            return grid.own[i];
        }
        return grid.own[i] - study.ownSum(i);
    }

    // ---- outages

    public long outage(int l, int k, int what) {
        if (!grid.hasLine(l) || !grid.hasLine(k) || !isFlag(what)) {
            return bad();
        }
        if (!grid.serves[k]) {
            return no();
        }
        study.take(k, NONE);
        study.solve(NONE, NONE);
        return part(study.carried[l], study.whole, what);
    }

    public long spread(int l, int k, int what) {
        if (!grid.hasLine(l) || !grid.hasLine(k) || !isFlag(what)) {
            return bad();
        }
        if (!grid.serves[k] || isBridge(k)) {
            return no();
        }
        if (l == k) {
            return part(0, 1, what);
        }
        // A transfer of 1 along k has the difference of the two factors of the document as its flow.
        study.take(NONE, NONE);
        study.solve(grid.from[k], grid.to[k]);
        return part(study.probed[l], study.whole - study.probed[k], what);
    }

    public long worst(int k, int what) {
        if ((k != NONE && !grid.hasLine(k)) || !within(what, 0, 3)) {
            return bad();
        }
        if (k != NONE && !grid.serves[k]) {
            return no();
        }
        study.take(k, NONE);
        study.load();
        switch (what) {
            case 0:
                return study.worstLine;
            case 1:
                return part(study.worstTop, study.worstBottom, 0);
            case 2:
                return part(study.worstTop, study.worstBottom, 1);
            default:
                return study.overloads;
        }
    }

    public int ranked(int i) {
        if (i < 0) {
            return bad();
        }
        if (i >= grid.serving()) {
            return NONE;
        }
        rankLines();
        return ranking.has(i) ? ranking.first[i] : NONE;
    }

    public long pair(int i, int what) {
        if (i < 0 || !within(what, 0, 3)) {
            return bad();
        }
        int serving = grid.serving();
        if (i >= serving * (serving - 1) / 2) {
            return NONE;
        }
        rankPairs();
        if (!ranking.has(i)) {
            return NONE;
        }
        switch (what) {
            case 0:
                return ranking.first[i];
            case 1:
                return ranking.second[i];
            case 2:
                return part(ranking.top[i], ranking.bottom[i], 0);
            default:
                return part(ranking.top[i], ranking.bottom[i], 1);
        }
    }

    public int shift(int k) {
        if (!grid.hasLine(k)) {
            bad();
            return NO_SUCH_LINE;
        }
        if (!isBridge(k)) {
            no();
            return NO_BRIDGE;
        }
        study.take(k, NONE);
        return study.ownSum(Math.max(study.slack[grid.from[k]], study.slack[grid.to[k]]));
    }

    public int transfer(int a, int b, int secure) {
        if (!grid.hasBus(a) || !grid.hasBus(b) || a == b || !isFlag(secure)) {
            return bad();
        }
        study.take(NONE, NONE);
        if (!study.joins(a, b)) {
            return no();
        }
        int most = study.room(a, b);
        if (secure == 1) {
            for (int k = 0; k < grid.lines; k++) {
                if (grid.serves[k] && !isBridge(k)) {
                    study.take(k, NONE);
                    most = Math.min(most, study.room(a, b));
                }
            }
        }
        return most;
    }

    public int count(int what) {
        switch (what) {
            case 0:
                study.take(NONE, NONE);
                return study.islands();
            case 1:
                return grid.lines;
            case 2:
                return grid.serving();
            case 3:
                return bridges();
            case 4:
                study.take(NONE, NONE);
                study.load();
                return study.overloads;
            case 5:
                rankLines();
                return ranking.overloaded();
            case 6:
                rankPairs();
                return ranking.overloaded();
            default:
                return bad();
        }
    }

    // ---- texts

    public int type(int c) {
        if (!within(c, 0, MOST_BYTE)) {
            return bad();
        }
        if (script.isFull()) {
            return full();
        }
        return script.append(c);
    }

    public int clear() {
        return script.empty();
    }

    public int does() {
        int fault = script.findFault();
        if (fault != NONE) {
            return FIRST_FAULT - fault;
        }
        past.keep(grid);
        int done = 0;
        script.rewind();
        for (int step = 0; step < MOST_BYTES && script.hasMore(); step++) {
            if (!script.readCommand()) {
                break;
            }
            if (obeys(script.kind, script.numbers)) {
                done++;
            }
        }
        return done;
    }

    public int back() {
        if (past.size == 0) {
            return no();
        }
        return past.restore(grid);
    }

    public int told(int what) {
        switch (what) {
            case 0:
                return bads;
            case 1:
                return nos;
            case 2:
                return fulls;
            case 3:
                return grid.buses;
            case 4:
                return grid.lines;
            case 5:
                return script.length;
            case 6:
                return past.size;
            default:
                return bad();
        }
    }

    public long digest() {
        long h = DIGEST_START;
        for (int what = 0; what <= 6; what++) {
            h = mixed(h, told(what));
        }
        for (int i = 0; i < grid.buses; i++) {
            h = mixed(h, grid.own[i]);
            h = mixed(h, island(i));
        }
        for (int l = 0; l < grid.lines; l++) {
            for (int what = 0; what <= 5; what++) {
                h = mixed(h, of(l, what));
            }
            h = mixed(h, flow(l, 0));
            h = mixed(h, flow(l, 1));
        }
        h = mixed(h, worst(NONE, 0));
        for (int what = 0; what <= 5; what++) {
            h = mixed(h, count(what));
        }
        return h;
    }

    // ---- helpers

    private int bad() {
        bads++;
        return BAD;
    }

    private int no() {
        nos++;
        return NO;
    }

    private int full() {
        fulls++;
        return FULL;
    }

    private boolean isBridge(int l) {
        if (!grid.serves[l]) {
            return false;
        }
        study.take(l, NONE);
        return !study.joins(grid.from[l], grid.to[l]);
    }

    private int bridges() {
        int found = 0;
        for (int l = 0; l < grid.lines; l++) {
            if (isBridge(l)) {
                found++;
            }
        }
        return found;
    }

    private void rankLines() {
        ranking.size = 0;
        for (int k = 0; k < grid.lines; k++) {
            if (grid.serves[k]) {
                rank(k, NONE);
            }
        }
    }

    private void rankPairs() {
        ranking.size = 0;
        for (int j = 0; j < grid.lines; j++) {
            for (int k = j + 1; k < grid.lines; k++) {
                if (grid.serves[j] && grid.serves[k]) {
                    rank(j, k);
                }
            }
        }
    }

    private void rank(int j, int k) {
        study.take(j, k);
        study.load();
        ranking.insert(j, k, study.worstTop, study.worstBottom);
    }

    // Whether an error applies is asked beforehand: a previous injection can look like an error code.
    private boolean obeys(int kind, int[] numbers) {
        int p = numbers[0];
        int q = numbers[1];
        boolean can;
        switch (kind) {
            case BUS:
                can = grid.canInject(p, q);
                if (can) {
                    grid.inject(p, q);
                }
                return can;
            case LINE:
                can = grid.canJoin(p, q, numbers[2], numbers[3]) && !grid.isFull();
                if (can) {
                    grid.join(p, q, numbers[2], numbers[3]);
                }
                return can;
            case LIMIT:
                can = grid.canBound(p, q);
                if (can) {
                    grid.bound(p, q);
                }
                return can;
            case STRENGTH:
                can = grid.canStrengthen(p, q);
                if (can) {
                    grid.strengthen(p, q);
                }
                return can;
            default:
                return obeysShort(kind, p);
        }
    }

    private boolean obeysShort(int kind, int p) {
        if (kind == BEGIN) {
            if (Grid.canHave(p)) {
                grid.restart(p);
                return true;
            }
            return false;
        }
        if (!grid.hasLine(p)) {
            return false;
        }
        if (kind == DROP) {
            grid.remove(p);
        } else {
            grid.turn(p, kind == CLOSE);
        }
        return true;
    }

    private static boolean within(int v, int low, int high) {
        return v >= low && v <= high;
    }

    private static boolean isFlag(int v) {
        return v == 0 || v == 1;
    }

    private static long mixed(long h, long number) {
        return DIGEST_STEP * h + number;
    }

    // The numerator (what 0) or the denominator (what 1) of top / bottom in lowest terms; bottom is positive.
    private static long part(long top, long bottom, int what) {
        long divisor = commonDivisor(Math.abs(top), bottom);
        long asked = what == 0 ? top : bottom;
        return divisor > 1 ? asked / divisor : asked;
    }

    private static long commonDivisor(long a, long b) {
        long larger = a;
        long smaller = b;
        for (int step = 0; step < MOST_DIVISIONS && smaller != 0; step++) {
            long rest = larger % smaller;
            larger = smaller;
            smaller = rest;
        }
        return larger;
    }

    /** The buses and the lines as they are set, without anything that follows from them. */
    private static final class Grid {
        private final int[] own = new int[MOST_BUSES];
        private final int[] from = new int[MOST_LINES];
        private final int[] to = new int[MOST_LINES];
        private final int[] strength = new int[MOST_LINES];
        private final int[] limit = new int[MOST_LINES];
        private final boolean[] serves = new boolean[MOST_LINES];
        private int buses = FIRST_BUSES;
        private int lines;

        boolean hasBus(int i) {
            return i >= 0 && i < buses;
        }

        boolean hasLine(int l) {
            return l >= 0 && l < lines;
        }

        boolean isFull() {
            return lines >= MOST_LINES;
        }

        int serving() {
            int found = 0;
            for (int l = 0; l < lines; l++) {
                if (serves[l]) {
                    found++;
                }
            }
            return found;
        }

        static boolean canHave(int n) {
            return within(n, FEWEST_BUSES, MOST_BUSES);
        }

        int restart(int n) {
            int before = buses;
            buses = n;
            lines = 0;
            for (int i = 0; i < MOST_BUSES; i++) {
                own[i] = 0;
            }
            return before;
        }

        boolean canInject(int i, int v) {
            return hasBus(i) && within(v, -MOST_INJECTION, MOST_INJECTION);
        }

        int inject(int i, int v) {
            int before = own[i];
            own[i] = v;
            return before;
        }

        boolean canJoin(int a, int b, int s, int m) {
            return hasBus(a) && hasBus(b) && a != b && within(s, 1, MOST_STRENGTH) && within(m, 1, MOST_LIMIT);
        }

        int join(int a, int b, int s, int m) {
            int l = lines;
            from[l] = a;
            to[l] = b;
            strength[l] = s;
            limit[l] = m;
            serves[l] = true;
            lines++;
            return l;
        }

        int remove(int l) {
            for (int i = l; i + 1 < lines; i++) {
                from[i] = from[i + 1];
                to[i] = to[i + 1];
                strength[i] = strength[i + 1];
                limit[i] = limit[i + 1];
                serves[i] = serves[i + 1];
            }
            lines--;
            return lines;
        }

        int turn(int l, boolean on) {
            int before = serves[l] ? 1 : 0;
            serves[l] = on;
            return before;
        }

        boolean canStrengthen(int l, int s) {
            return hasLine(l) && within(s, 1, MOST_STRENGTH);
        }

        int strengthen(int l, int s) {
            int before = strength[l];
            strength[l] = s;
            return before;
        }

        boolean canBound(int l, int m) {
            return hasLine(l) && within(m, 1, MOST_LIMIT);
        }

        int bound(int l, int m) {
            int before = limit[l];
            limit[l] = m;
            return before;
        }

        void copy(Grid other) {
            buses = other.buses;
            lines = other.lines;
            for (int i = 0; i < MOST_BUSES; i++) {
                own[i] = other.own[i];
            }
            for (int l = 0; l < MOST_LINES; l++) {
                from[l] = other.from[l];
                to[l] = other.to[l];
                strength[l] = other.strength[l];
                limit[l] = other.limit[l];
                serves[l] = other.serves[l];
            }
        }
    }

    /** The grids that back() can restore, in a ring, so that the oldest one gives its place to a new one. */
    private static final class Past {
        private final Grid[] kept = new Grid[MOST_KEPT];
        private int oldest;
        private int size;

        Past() {
            for (int i = 0; i < MOST_KEPT; i++) {
                kept[i] = new Grid();
            }
        }

        void keep(Grid grid) {
            if (size == MOST_KEPT) {
                oldest = (oldest + 1) % MOST_KEPT;
                size--;
            }
            Grid place = kept[(oldest + size) % MOST_KEPT];
            if (place != null) {
                place.copy(grid);
            }
            size++;
        }

        int restore(Grid grid) {
            size--;
            Grid place = kept[(oldest + size) % MOST_KEPT];
            if (place != null) {
                grid.copy(place);
            }
            return size;
        }
    }

    /**
     * A state of the grid: as it is, or with one or two lines out of service.
     *
     * All fractions of a state have one common denominator, the determinant of its equations;
     * with 6 buses, 10 lines and susceptances up to 5 every number here stays far below 2 to the 62.
     */
    private static final class Study {
        private final Grid grid;
        private final boolean[] live = new boolean[MOST_LINES];
        private final int[] slack = new int[MOST_BUSES];
        // One row a bus: the equation's coefficients, then the injection, then the probe.
        private final long[][] rows = new long[MOST_BUSES][MOST_BUSES + 2];
        private final long[] turned = new long[MOST_BUSES];
        private final long[] carried = new long[MOST_LINES];
        private final long[] probed = new long[MOST_LINES];
        private long whole = 1;
        private int worstLine = NONE;
        private long worstTop;
        private long worstBottom = 1;
        private int overloads;

        Study(Grid studied) {
            grid = studied;
        }

        // The state in which the lines j and k, where they are not NONE, are out of service.
        void take(int j, int k) {
            for (int l = 0; l < MOST_LINES; l++) {
                live[l] = l < grid.lines && grid.serves[l] && l != j && l != k;
            }
            findIslands();
        }

        // Leaves only the lines of the island of a bus, so that the determinant is the weight of this island.
        void narrow(int bus) {
            int only = slack[bus];
            for (int l = 0; l < grid.lines; l++) {
                live[l] = live[l] && slack[grid.from[l]] == only;
            }
            findIslands();
        }

        private void findIslands() {
            for (int i = 0; i < MOST_BUSES; i++) {
                slack[i] = i;
            }
            for (int l = 0; l < grid.lines; l++) {
                if (live[l]) {
                    merge(slack[grid.from[l]], slack[grid.to[l]]);
                }
            }
        }

        private void merge(int one, int other) {
            int lower = one < other ? one : other;
            int higher = one < other ? other : one;
            for (int i = 0; i < grid.buses; i++) {
                if (slack[i] == higher) {
                    slack[i] = lower;
                }
            }
        }

        boolean joins(int a, int b) {
            return slack[a] == slack[b];
        }

        int islands() {
            int found = 0;
            for (int i = 0; i < grid.buses; i++) {
                if (slack[i] == i) {
                    found++;
                }
            }
            return found;
        }

        // The sum of the own injections of the island with this slack bus.
        int ownSum(int slackBus) {
            int sum = 0;
            for (int i = 0; i < grid.buses; i++) {
                if (slack[i] == slackBus) {
                    sum += grid.own[i];
                }
            }
            return sum;
        }

        // The probe is an injection greater by 1 at the bus plus and smaller by 1 at the bus minus (either can be NONE).
        void solve(int plus, int minus) {
            for (int i = 0; i < grid.buses; i++) {
                startRow(i, plus, minus);
            }
            for (int l = 0; l < grid.lines; l++) {
                if (live[l]) {
                    addTerms(grid.from[l], grid.to[l], grid.strength[l]);
                    addTerms(grid.to[l], grid.from[l], grid.strength[l]);
                }
            }
            eliminate();
            readFlows();
        }

        // The equation of a slack bus says only that its angle is 0.
        private void startRow(int i, int plus, int minus) {
            int n = grid.buses;
            boolean isSlack = slack[i] == i;
            for (int c = 0; c < n; c++) {
                rows[i][c] = isSlack && c == i ? 1 : 0;
            }
            rows[i][n] = isSlack ? 0 : grid.own[i];
            rows[i][n + 1] = isSlack ? 0 : (i == plus ? 1 : 0) - (i == minus ? 1 : 0);
        }

        // The angle of a slack bus is 0: without its column the matrix is symmetric and positive definite.
        private void addTerms(int bus, int next, int s) {
            if (slack[bus] == bus) {
                return;
            }
            rows[bus][bus] += s;
            if (slack[next] != next) {
                rows[bus][next] -= s;
            }
        }

        // Bareiss: each division is exact, and at the end all rows have the last pivot as their denominator.
        // The pivots are the leading minors of a positive definite matrix, so none of them is 0.
        private void eliminate() {
            whole = 1;
            int n = grid.buses;
            for (int k = 0; k < n && whole != 0; k++) {
                long pivot = rows[k][k];
                for (int i = 0; i < n; i++) {
                    long times = rows[i][k];
                    // Columns up to k are not needed any more.
                    for (int c = k + 1; i != k && c < n + 2; c++) {
                        rows[i][c] = (pivot * rows[i][c] - times * rows[k][c]) / whole;
                    }
                }
                whole = pivot;
            }
        }

        private void readFlows() {
            int n = grid.buses;
            for (int i = 0; i < n; i++) {
                turned[i] = rows[i][n];
            }
            for (int l = 0; l < grid.lines; l++) {
                carried[l] = live[l] ? across(l, n) : 0;
                probed[l] = live[l] ? across(l, n + 1) : 0;
            }
        }

        private long across(int l, int column) {
            return grid.strength[l] * (rows[grid.from[l]][column] - rows[grid.to[l]][column]);
        }

        // Solves the state and finds its worst line and its overloaded lines.
        void load() {
            solve(NONE, NONE);
            worstLine = NONE;
            worstTop = 0;
            worstBottom = 1;
            overloads = 0;
            for (int l = 0; l < grid.lines; l++) {
                if (live[l]) {
                    weigh(l, Math.abs(carried[l]), whole * grid.limit[l]);
                }
            }
        }

        private void weigh(int l, long top, long bottom) {
            if (worstLine == NONE || isGreater(top, bottom, worstTop, worstBottom)) {
                worstLine = l;
                worstTop = top;
                worstBottom = bottom;
            }
            if (top > bottom) {
                overloads++;
            }
        }

        // The greatest transfer in this state; each line's flow is linear in it, so that each line sets one bound.
        int room(int a, int b) {
            solve(a, b);
            long most = MOST_TRANSFER;
            for (int l = 0; l < grid.lines; l++) {
                if (live[l]) {
                    most = Math.min(most, roomOf(carried[l], probed[l], whole * grid.limit[l]));
                }
            }
            return (int) most;
        }

        private static long roomOf(long now, long growth, long bound) {
            if (Math.abs(now) > bound) {
                return NONE;
            }
            if (growth > 0) {
                return (bound - now) / growth;
            }
            if (growth < 0) {
                return (bound + now) / -growth;
            }
            return MOST_TRANSFER;
        }
    }

    private static boolean isGreater(long top, long bottom, long otherTop, long otherBottom) {
        return top * otherBottom > otherTop * bottom;
    }

    /** Outages with their worst loadings, the greatest first; equal ones stay in the order of their insertion. */
    private static final class Ranking {
        private final int[] first = new int[MOST_PAIRS];
        private final int[] second = new int[MOST_PAIRS];
        private final long[] top = new long[MOST_PAIRS];
        private final long[] bottom = new long[MOST_PAIRS];
        private int size;

        boolean has(int i) {
            return i >= 0 && i < size;
        }

        void insert(int j, int k, long itsTop, long itsBottom) {
            if (size >= MOST_PAIRS) {
                return;
            }
            int at = size;
            for (; at > 0 && isGreater(itsTop, itsBottom, top[at - 1], bottom[at - 1]); at--) {
                first[at] = first[at - 1];
                second[at] = second[at - 1];
                top[at] = top[at - 1];
                bottom[at] = bottom[at - 1];
            }
            first[at] = j;
            second[at] = k;
            top[at] = itsTop;
            bottom[at] = itsBottom;
            size++;
        }

        int overloaded() {
            int found = 0;
            for (int i = 0; i < size; i++) {
                if (top[i] > bottom[i]) {
                    found++;
                }
            }
            return found;
        }
    }

    /** The text, and a reader that goes through its commands. */
    private static final class Script {
        private final int[] bytes = new int[MOST_BYTES];
        private final int[] numbers = new int[MOST_NUMBERS];
        private int length;
        private int at;
        private int kind;

        boolean isFull() {
            return length >= MOST_BYTES;
        }

        int append(int c) {
            bytes[length] = c;
            length++;
            return length;
        }

        int empty() {
            int before = length;
            length = 0;
            return before;
        }

        void rewind() {
            at = 0;
        }

        // The position of the fault, or NONE.
        int findFault() {
            rewind();
            if (!hasMore()) {
                return length;
            }
            for (int step = 0; step < MOST_BYTES && hasMore(); step++) {
                if (!readCommand()) {
                    return at;
                }
            }
            return NONE;
        }

        boolean hasMore() {
            skipBlanks();
            return at < length;
        }

        // If the command has a fault, at is its position then.
        boolean readCommand() {
            if (!readWord()) {
                return false;
            }
            int wanted = numbersOf(kind);
            for (int i = 0; i < wanted; i++) {
                if (!readNumber(i, kind == BUS && i == 1)) {
                    return false;
                }
            }
            skipBlanks();
            if (!sees(';')) {
                return false;
            }
            at++;
            return true;
        }

        private boolean readWord() {
            int end = at;
            while (end < length && isLetter(bytes[end])) {
                end++;
            }
            for (int k = 0; k < KINDS; k++) {
                if (isWord(wordOf(k), end)) {
                    kind = k;
                    at = end;
                    return true;
                }
            }
            return false;
        }

        // Whether the bytes from the present position up to end are this word.
        private boolean isWord(String word, int end) {
            if (end - at != word.length()) {
                return false;
            }
            for (int i = 0; i < word.length(); i++) {
                if (bytes[at + i] != word.charAt(i)) {
                    return false;
                }
            }
            return true;
        }

        private boolean readNumber(int place, boolean canBeNegative) {
            skipBlanks();
            boolean negative = canBeNegative && sees('-');
            if (negative) {
                at++;
            }
            if (!seesDigit()) {
                return false;
            }
            int value = 0;
            for (int digit = 0; digit < MOST_DIGITS && seesDigit(); digit++) {
                value = value * 10 + bytes[at] - '0';
                at++;
            }
            numbers[place] = negative ? -value : value;
            return !seesDigit();
        }

        private void skipBlanks() {
            while (at < length && bytes[at] == ' ') {
                at++;
            }
        }

        private boolean sees(int c) {
            return at < length && bytes[at] == c;
        }

        private boolean seesDigit() {
            return at < length && within(bytes[at], '0', '9');
        }

        private static boolean isLetter(int c) {
            return within(c, 'a', 'z');
        }

        private static String wordOf(int kind) {
            switch (kind) {
                case BUS:
                    return "bus";
                case LINE:
                    return "line";
                case OPEN:
                    return "open";
                case CLOSE:
                    return "close";
                case LIMIT:
                    return "limit";
                case STRENGTH:
                    return "strength";
                case DROP:
                    return "drop";
                default:
                    return "begin";
            }
        }

        private static int numbersOf(int kind) {
            switch (kind) {
                case LINE:
                    return 4;
                case BUS:
                case LIMIT:
                case STRENGTH:
                    return 2;
                default:
                    return 1;
            }
        }
    }
}
