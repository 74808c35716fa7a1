import java.math.BigInteger;
import java.util.ArrayDeque;
import java.util.ArrayList;
import java.util.Arrays;
import java.util.Deque;
import java.util.List;
import java.util.Random;
import java.util.regex.Matcher;
import java.util.regex.Pattern;

/**
 * Long runs of chosen calls, each answer compared with that of a slow model written from the document's words:
 * angles by elimination over fractions, weights by trying all sets of lines, faults by a regular expression.
 */
public final class ModelTest {
    private static final int RUNS = 400;
    private static final int CALLS = 500;

    private static int wrong = 0;
    private static int asked = 0;
    private static int run = 0;
    private static List<String> told = new ArrayList<>();

    public static void main(String[] args) {
        for (run = 1; run <= RUNS && wrong == 0; run++) {
            told = new ArrayList<>();
            new Driver(new Random(7919L * run), run % 4).drive();
        }
        System.out.println("ModelTest: " + asked + " answers, " + wrong + " wrong");
        if (wrong != 0) {
            System.exit(1);
        }
    }

    static void due(String call, long got, long want) {
        asked++;
        told.add(call + " = " + want);
        if (got != want) {
            wrong++;
            if (wrong == 1) {
                told.forEach(System.out::println);
            }
            System.out.println("run " + run + ": " + call + " answered " + got + ", due is " + want);
        }
    }

    /** Chooses calls: most of them with fitting arguments, some a little outside. */
    static final class Driver {
        final Random random;
        final int mood;
        final OutageScreen x = new OutageScreen();
        final Model m = new Model();
        int calls = 0;

        Driver(Random random, int mood) {
            this.random = random;
            this.mood = mood;
        }

        void drive() {
            start();
            while (calls < CALLS && wrong == 0) {
                int choice = random.nextInt(100);
                if (choice < (mood == 0 ? 45 : 20)) {
                    change();
                } else if (choice < (mood == 1 ? 50 : 24) && calls < CALLS - 130) {
                    text();
                } else {
                    ask();
                }
            }
        }

        void start() {
            int n = 2 + random.nextInt(5);
            due("begins(" + n + ")", x.begins(n), m.begins(n));
            int lines = random.nextInt(11);
            for (int l = 0; l < lines; l++) {
                addLine();
            }
            for (int i = 0; i < n; i++) {
                feed(i, random.nextInt(199) - 99);
            }
            calls += 1 + n + lines;
        }

        int bus() {
            return random.nextInt(30) == 0 ? pick(-1, m.n, Integer.MIN_VALUE, Integer.MAX_VALUE) : random.nextInt(m.n);
        }

        int lineNumber() {
            int size = m.lines.size();
            return size == 0 || random.nextInt(30) == 0
                ? pick(-1, size, -2, Integer.MAX_VALUE, Integer.MIN_VALUE) : random.nextInt(size);
        }

        int upTo(int most) {
            return random.nextInt(25) == 0
                ? pick(-1, most + 1, Integer.MIN_VALUE, Integer.MAX_VALUE) : random.nextInt(most + 1);
        }

        int pick(int... values) {
            return values[random.nextInt(values.length)];
        }

        int strength() {
            return random.nextInt(20) == 0 ? pick(0, 6, -1, 1, 5) : 1 + random.nextInt(5);
        }

        int limit() {
            switch (random.nextInt(12)) {
                case 0: return pick(0, 1000, -1, 1, 999);
                case 1: return 1 + random.nextInt(999);
                default: return 20 + random.nextInt(100);
            }
        }

        int injection() {
            return random.nextInt(12) == 0 ? pick(-100, 100, -99, 99, -2, -3, -4) : random.nextInt(199) - 99;
        }

        void addLine() {
            int a = bus();
            int b = random.nextInt(4) == 0 ? bus() : a >= 0 && a < m.n ? (a + 1 + random.nextInt(m.n - 1)) % m.n : bus();
            int s = strength();
            int v = limit();
            due("line(" + a + ", " + b + ", " + s + ", " + v + ")", x.line(a, b, s, v), m.line(a, b, s, v));
        }

        void feed(int i, int v) {
            due("feeds(" + i + ", " + v + ")", x.feeds(i, v), m.feeds(i, v));
        }

        void change() {
            calls++;
            int l = lineNumber();
            switch (random.nextInt(12)) {
                case 0:
                    if (random.nextInt(4) == 0) {
                        int n = random.nextInt(6) == 0 ? pick(1, 7, 0, -4) : 2 + random.nextInt(5);
                        due("begins(" + n + ")", x.begins(n), m.begins(n));
                    }
                    break;
                case 1: case 2: case 3:
                    feed(bus(), injection());
                    break;
                case 4: case 5: case 6:
                    addLine();
                    break;
                case 7:
                    if (random.nextInt(3) == 0) {
                        due("drops(" + l + ")", x.drops(l), m.drops(l));
                    }
                    break;
                case 8: case 9:
                    int on = random.nextInt(3) > 0 ? 1 : upTo(1);
                    due("switches(" + l + ", " + on + ")", x.switches(l, on), m.switches(l, on));
                    break;
                case 10:
                    int what = upTo(1);
                    int v = what == 0 ? strength() : limit();
                    due("sets(" + l + ", " + what + ", " + v + ")", x.sets(l, what, v), m.sets(l, what, v));
                    break;
                default:
                    due("back()", x.back(), m.back());
            }
        }

        void ask() {
            calls++;
            int l = lineNumber();
            int k = lineNumber();
            int i = bus();
            int two = upTo(1);
            switch (random.nextInt(19)) {
                case 0: int p = upTo(5); due("of(" + l + ", " + p + ")", x.of(l, p), m.of(l, p)); break;
                case 1: due("flow(" + l + ", " + two + ")", x.flow(l, two), m.flow(l, two)); break;
                case 2: due("angle(" + i + ", " + two + ")", x.angle(i, two), m.angle(i, two)); break;
                case 3: due("factor(" + l + ", " + i + ", " + two + ")", x.factor(l, i, two), m.factor(l, i, two)); break;
                case 4: due("island(" + i + ")", x.island(i), m.island(i)); break;
                case 5: due("trees(" + i + ")", x.trees(i), m.trees(i)); break;
                case 6: due("fed(" + i + ")", x.fed(i), m.fed(i)); break;
                case 7: due("outage(" + l + ", " + k + ", " + two + ")", x.outage(l, k, two), m.outage(l, k, two)); break;
                case 8: due("spread(" + l + ", " + k + ", " + two + ")", x.spread(l, k, two), m.spread(l, k, two)); break;
                case 9:
                    int of = random.nextInt(3) == 0 ? -1 : k;
                    int w = upTo(3);
                    due("worst(" + of + ", " + w + ")", x.worst(of, w), m.worst(of, w));
                    break;
                case 10: int r = upTo(10); due("ranked(" + r + ")", x.ranked(r), m.ranked(r)); break;
                case 11:
                    int at = upTo(random.nextBoolean() ? 45 : 6);
                    int pw = upTo(3);
                    due("pair(" + at + ", " + pw + ")", x.pair(at, pw), m.pair(at, pw));
                    break;
                case 12: due("shift(" + k + ")", x.shift(k), m.shift(k)); break;
                case 13: case 14:
                    int j = bus();
                    due("transfer(" + i + ", " + j + ", " + two + ")", x.transfer(i, j, two), m.transfer(i, j, two));
                    break;
                case 15: case 16: int c = upTo(6); due("count(" + c + ")", x.count(c), m.count(c)); break;
                case 17: int t = upTo(6); due("told(" + t + ")", x.told(t), m.told(t)); break;
                default: due("digest()", x.digest(), m.digest());
            }
        }

        void text() {
            String text = new Texts(random, m).make();
            for (int i = 0; i < text.length() && calls < CALLS; i++) {
                type(text.charAt(i));
            }
            int again = 1 + (random.nextInt(4) == 0 ? 1 : 0);
            for (int i = 0; i < again; i++) {
                calls++;
                due("does() of '" + text + "'", x.does(), m.does());
            }
            if (random.nextInt(5) > 0) {
                calls++;
                due("clear()", x.clear(), m.clear());
            }
        }

        void type(int c) {
            int typed = random.nextInt(400) == 0 ? pick(-1, 128, Integer.MAX_VALUE) : c;
            calls++;
            due("type(" + typed + ")", x.type(typed), m.type(typed));
        }
    }

    /** Makes texts of commands, about half of them with something changed. */
    static final class Texts {
        static final String[] WORDS = {"bus", "line", "open", "close", "limit", "strength", "drop", "begin"};
        final Random random;
        final Model m;

        Texts(Random random, Model m) {
            this.random = random;
            this.m = m;
        }

        String make() {
            StringBuilder text = new StringBuilder(blanks(0));
            int commands = random.nextInt(12) == 0 ? 0 : 1 + random.nextInt(random.nextInt(3) == 0 ? 12 : 3);
            for (int i = 0; i < commands; i++) {
                text.append(command());
            }
            if (random.nextBoolean()) {
                damage(text);
            }
            return text.toString();
        }

        String command() {
            String word = WORDS[random.nextInt(random.nextInt(4) == 0 ? 8 : 7)];
            StringBuilder text = new StringBuilder(word).append(blanks(0));
            int size = m.lines.size();
            if (word.equals("bus")) {
                text.append(random.nextInt(m.n + 1));
                int v = random.nextInt(230) - 115;
                text.append(blanks(v < 0 ? 0 : 1)).append(v);
            } else if (word.equals("line")) {
                text.append(random.nextInt(m.n)).append(blanks(1)).append(random.nextInt(m.n));
                text.append(blanks(1)).append(random.nextInt(7)).append(blanks(1)).append(random.nextInt(200));
            } else if (word.equals("limit") || word.equals("strength")) {
                text.append(random.nextInt(size + 1)).append(blanks(1));
                text.append(random.nextInt(word.equals("limit") ? 300 : 7));
            } else {
                text.append(random.nextInt(word.equals("begin") ? 8 : size + 1));
            }
            return text.append(blanks(0)).append(';').append(blanks(0)).toString();
        }

        String blanks(int fewest) {
            return " ".repeat(fewest + (random.nextInt(3) == 0 ? random.nextInt(3) : 0));
        }

        void damage(StringBuilder text) {
            int at = random.nextInt(text.length() + 1);
            switch (random.nextInt(4)) {
                case 0:
                    text.setLength(at);
                    break;
                case 1:
                    if (at < text.length()) {
                        text.deleteCharAt(at);
                    }
                    break;
                default:
                    String some = "0123456789 ;-;- 0abnopsudlimtA\n\0\u007f{`/:";
                    text.insert(at, some.charAt(random.nextInt(some.length())));
            }
        }
    }

    /** A fraction in lowest terms. */
    static final class Fraction implements Comparable<Fraction> {
        static final Fraction ZERO = of(0);
        static final Fraction ONE = of(1);
        final BigInteger top;
        final BigInteger bottom;

        Fraction(BigInteger top, BigInteger bottom) {
            BigInteger by = top.gcd(bottom).multiply(BigInteger.valueOf(bottom.signum()));
            this.top = top.divide(by);
            this.bottom = bottom.divide(by);
        }

        static Fraction of(long v) {
            return new Fraction(BigInteger.valueOf(v), BigInteger.ONE);
        }

        Fraction plus(Fraction o) {
            return new Fraction(top.multiply(o.bottom).add(o.top.multiply(bottom)), bottom.multiply(o.bottom));
        }

        Fraction minus(Fraction o) {
            return plus(o.times(of(-1)));
        }

        Fraction times(Fraction o) {
            return new Fraction(top.multiply(o.top), bottom.multiply(o.bottom));
        }

        Fraction over(Fraction o) {
            return new Fraction(top.multiply(o.bottom), bottom.multiply(o.top));
        }

        Fraction size() {
            return new Fraction(top.abs(), bottom);
        }

        boolean isZero() {
            return top.signum() == 0;
        }

        @Override
        public int compareTo(Fraction o) {
            return top.multiply(o.bottom).compareTo(o.top.multiply(bottom));
        }

        long part(int what) {
            return (what == 0 ? top : bottom).longValueExact();
        }
    }

    record Line(int a, int b, int s, int limit, boolean on) {
    }

    /** Buses and lines, in one state. */
    static final class Net {
        final long[] own;
        final List<Line> lines;

        Net(long[] own, List<Line> lines) {
            this.own = own;
            this.lines = lines;
        }

        Net without(int... out) {
            List<Line> rest = new ArrayList<>(lines);
            for (int k : out) {
                Line o = rest.get(k);
                rest.set(k, new Line(o.a, o.b, o.s, o.limit, false));
            }
            return new Net(own, rest);
        }

        Net fedBy(int bus, long more) {
            long[] changed = own.clone();
            changed[bus] += more;
            return new Net(changed, lines);
        }

        int slackOf(int bus) {
            boolean[] reached = new boolean[own.length];
            Deque<Integer> open = new ArrayDeque<>(List.of(bus));
            int lowest = bus;
            while (!open.isEmpty()) {
                int i = open.pop();
                if (reached[i]) {
                    continue;
                }
                reached[i] = true;
                lowest = Math.min(lowest, i);
                for (Line l : lines) {
                    if (l.on && l.a == i) {
                        open.push(l.b);
                    }
                    if (l.on && l.b == i) {
                        open.push(l.a);
                    }
                }
            }
            return lowest;
        }

        long fed(int bus) {
            if (slackOf(bus) != bus) {
                return own[bus];
            }
            long others = 0;
            for (int i = 0; i < own.length; i++) {
                others += i != bus && slackOf(i) == bus ? own[i] : 0;
            }
            return -others;
        }

        Fraction[] angles() {
            int n = own.length;
            Fraction[][] rows = new Fraction[n][n + 1];
            for (int i = 0; i < n; i++) {
                Arrays.fill(rows[i], Fraction.ZERO);
                if (slackOf(i) == i) {
                    rows[i][i] = Fraction.ONE;
                    continue;
                }
                rows[i][n] = Fraction.of(fed(i));
                for (Line l : lines) {
                    if (l.on && (l.a == i || l.b == i)) {
                        int other = l.a == i ? l.b : l.a;
                        rows[i][i] = rows[i][i].plus(Fraction.of(l.s));
                        rows[i][other] = rows[i][other].minus(Fraction.of(l.s));
                    }
                }
            }
            return solved(rows);
        }

        static Fraction[] solved(Fraction[][] rows) {
            int n = rows.length;
            for (int k = 0; k < n; k++) {
                int with = k;
                while (rows[with][k].isZero()) {
                    with++;
                }
                Fraction[] row = rows[with];
                rows[with] = rows[k];
                rows[k] = row;
                for (int i = 0; i < n; i++) {
                    if (i != k && !rows[i][k].isZero()) {
                        Fraction times = rows[i][k].over(row[k]);
                        for (int c = k; c <= n; c++) {
                            rows[i][c] = rows[i][c].minus(times.times(row[c]));
                        }
                    }
                }
            }
            Fraction[] angles = new Fraction[n];
            for (int i = 0; i < n; i++) {
                angles[i] = rows[i][n].over(rows[i][i]);
            }
            return angles;
        }

        Fraction[] flows() {
            Fraction[] angles = angles();
            Fraction[] flows = new Fraction[lines.size()];
            for (int l = 0; l < flows.length; l++) {
                Line o = lines.get(l);
                flows[l] = o.on ? Fraction.of(o.s).times(angles[o.a].minus(angles[o.b])) : Fraction.ZERO;
            }
            return flows;
        }

        Fraction factor(int l, int bus) {
            return fedBy(bus, 1).flows()[l].minus(flows()[l]);
        }

        boolean isBridge(int k) {
            Line o = lines.get(k);
            Net rest = without(k);
            return o.on && rest.slackOf(o.a) != rest.slackOf(o.b);
        }

        // Tries every set of lines that is as large as a tree of this island.
        long weight(int bus) {
            int slack = slackOf(bus);
            long size = 0;
            for (int i = 0; i < own.length; i++) {
                size += slackOf(i) == slack ? 1 : 0;
            }
            long sum = 0;
            for (int set = 0; set < 1 << lines.size(); set++) {
                if (Integer.bitCount(set) == size - 1) {
                    sum += treeWeight(set, slack, size);
                }
            }
            return sum;
        }

        private long treeWeight(int set, int slack, long size) {
            List<Line> chosen = new ArrayList<>();
            long product = 1;
            for (int l = 0; l < lines.size(); l++) {
                if ((set >> l & 1) == 1) {
                    if (!lines.get(l).on) {
                        return 0;
                    }
                    chosen.add(lines.get(l));
                    product *= lines.get(l).s;
                }
            }
            Net tree = new Net(own, chosen);
            long reached = 0;
            for (int i = 0; i < own.length; i++) {
                reached += tree.slackOf(i) == slack ? 1 : 0;
            }
            return reached == size ? product : 0;
        }

        int worstLine() {
            Fraction[] flows = flows();
            int worst = -1;
            for (int l = 0; l < flows.length; l++) {
                if (lines.get(l).on && (worst < 0 || loading(flows, l).compareTo(loading(flows, worst)) > 0)) {
                    worst = l;
                }
            }
            return worst;
        }

        Fraction loading(Fraction[] flows, int l) {
            return flows[l].size().over(Fraction.of(lines.get(l).limit));
        }

        Fraction worstLoading() {
            int worst = worstLine();
            return worst < 0 ? Fraction.ZERO : loading(flows(), worst);
        }

        int overloads() {
            Fraction[] flows = flows();
            int found = 0;
            for (int l = 0; l < flows.length; l++) {
                found += loading(flows, l).compareTo(Fraction.ONE) > 0 ? 1 : 0;
            }
            return found;
        }

        boolean bears(boolean secure) {
            if (overloads() > 0) {
                return false;
            }
            for (int k = 0; secure && k < lines.size(); k++) {
                if (lines.get(k).on && !isBridge(k) && without(k).overloads() > 0) {
                    return false;
                }
            }
            return true;
        }
    }

    record Outage(int j, int k, Fraction loading) {
    }

    /** The class again, from the document's words. */
    static final class Model {
        int n = 4;
        long[] own = new long[4];
        List<Line> lines = new ArrayList<>();
        String text = "";
        final Deque<Net> kept = new ArrayDeque<>();
        final int[] errors = new int[3];
        boolean inText = false;

        int error(int code) {
            if (!inText) {
                errors[-2 - code]++;
            }
            return code;
        }

        Net net() {
            return new Net(own.clone(), new ArrayList<>(lines));
        }

        void keep() {
            if (!inText) {
                kept.addLast(net());
                if (kept.size() > 8) {
                    kept.removeFirst();
                }
            }
        }

        boolean isBus(int i) {
            return i >= 0 && i < n;
        }

        boolean isLine(int l) {
            return l >= 0 && l < lines.size();
        }

        static boolean in(int v, int low, int high) {
            return low <= v && v <= high;
        }

        long begins(int count) {
            if (!in(count, 2, 6)) {
                return error(-2);
            }
            keep();
            int before = n;
            n = count;
            own = new long[n];
            lines = new ArrayList<>();
            return before;
        }

        long feeds(int i, int v) {
            if (!isBus(i) || !in(v, -99, 99)) {
                return error(-2);
            }
            keep();
            long before = own[i];
            own[i] = v;
            return before;
        }

        long line(int a, int b, int s, int limit) {
            if (!isBus(a) || !isBus(b) || a == b || !in(s, 1, 5) || !in(limit, 1, 999)) {
                return error(-2);
            }
            if (lines.size() == 10) {
                return error(-4);
            }
            keep();
            lines.add(new Line(a, b, s, limit, true));
            return lines.size() - 1;
        }

        long drops(int l) {
            if (!isLine(l)) {
                return error(-2);
            }
            keep();
            lines.remove(l);
            return lines.size();
        }

        long switches(int l, int on) {
            if (!isLine(l) || !in(on, 0, 1)) {
                return error(-2);
            }
            keep();
            Line o = lines.get(l);
            lines.set(l, new Line(o.a, o.b, o.s, o.limit, on == 1));
            return o.on ? 1 : 0;
        }

        long sets(int l, int what, int v) {
            if (!isLine(l) || !in(what, 0, 1) || !in(v, 1, what == 0 ? 5 : 999)) {
                return error(-2);
            }
            keep();
            Line o = lines.get(l);
            lines.set(l, what == 0 ? new Line(o.a, o.b, v, o.limit, o.on) : new Line(o.a, o.b, o.s, v, o.on));
            return what == 0 ? o.s : o.limit;
        }

        long of(int l, int what) {
            if (!isLine(l) || !in(what, 0, 5)) {
                return error(-2);
            }
            Line o = lines.get(l);
            return new long[] {o.a, o.b, o.s, o.limit, o.on ? 1 : 0, net().isBridge(l) ? 1 : 0}[what];
        }

        long flow(int l, int what) {
            return isLine(l) && in(what, 0, 1) ? net().flows()[l].part(what) : error(-2);
        }

        long angle(int i, int what) {
            return isBus(i) && in(what, 0, 1) ? net().angles()[i].part(what) : error(-2);
        }

        long factor(int l, int i, int what) {
            return isLine(l) && isBus(i) && in(what, 0, 1) ? net().factor(l, i).part(what) : error(-2);
        }

        long island(int i) {
            return isBus(i) ? net().slackOf(i) : error(-2);
        }

        long trees(int i) {
            return isBus(i) ? net().weight(i) : error(-2);
        }

        long fed(int i) {
            return isBus(i) ? net().fed(i) : error(-2) - 99997;
        }

        long outage(int l, int k, int what) {
            if (!isLine(l) || !isLine(k) || !in(what, 0, 1)) {
                return error(-2);
            }
            return lines.get(k).on ? net().without(k).flows()[l].part(what) : error(-3);
        }

        long spread(int l, int k, int what) {
            if (!isLine(l) || !isLine(k) || !in(what, 0, 1)) {
                return error(-2);
            }
            Net net = net();
            if (!lines.get(k).on || net.isBridge(k)) {
                return error(-3);
            }
            Line out = lines.get(k);
            if (l == k || !lines.get(l).on || net.slackOf(lines.get(l).a) != net.slackOf(out.a)) {
                return Fraction.ZERO.part(what);
            }
            Fraction up = net.factor(l, out.a).minus(net.factor(l, out.b));
            Fraction down = Fraction.ONE.minus(net.factor(k, out.a).minus(net.factor(k, out.b)));
            return up.over(down).part(what);
        }

        long worst(int k, int what) {
            if (k != -1 && !isLine(k) || !in(what, 0, 3)) {
                return error(-2);
            }
            if (k != -1 && !lines.get(k).on) {
                return error(-3);
            }
            Net state = k == -1 ? net() : net().without(k);
            switch (what) {
                case 0: return state.worstLine();
                case 3: return state.overloads();
                default: return state.worstLoading().part(what - 1);
            }
        }

        List<Outage> ranking(boolean doubles) {
            List<Outage> all = new ArrayList<>();
            for (int j = 0; j < lines.size(); j++) {
                if (lines.get(j).on && !doubles) {
                    all.add(new Outage(j, -1, net().without(j).worstLoading()));
                }
                for (int k = j + 1; doubles && k < lines.size(); k++) {
                    if (lines.get(j).on && lines.get(k).on) {
                        all.add(new Outage(j, k, net().without(j, k).worstLoading()));
                    }
                }
            }
            all.sort((p, q) -> p.loading.compareTo(q.loading) != 0 ? q.loading.compareTo(p.loading)
                : p.j != q.j ? Integer.compare(p.j, q.j) : Integer.compare(p.k, q.k));
            return all;
        }

        long ranked(int i) {
            if (i < 0) {
                return error(-2);
            }
            List<Outage> all = ranking(false);
            return i < all.size() ? all.get(i).j : -1;
        }

        long pair(int i, int what) {
            if (i < 0 || !in(what, 0, 3)) {
                return error(-2);
            }
            List<Outage> all = ranking(true);
            if (i >= all.size()) {
                return -1;
            }
            Outage o = all.get(i);
            return what == 0 ? o.j : what == 1 ? o.k : o.loading.part(what - 2);
        }

        long shift(int k) {
            if (!isLine(k)) {
                return error(-2) - 9997;
            }
            if (!net().isBridge(k)) {
                return error(-3) - 9995;
            }
            Net rest = net().without(k);
            int slack = Math.max(rest.slackOf(lines.get(k).a), rest.slackOf(lines.get(k).b));
            long sum = 0;
            for (int i = 0; i < n; i++) {
                sum += rest.slackOf(i) == slack ? own[i] : 0;
            }
            return sum;
        }

        // The states that bear t are those up to some t, so that halving finds the last one.
        long transfer(int a, int b, int secure) {
            if (!isBus(a) || !isBus(b) || a == b || !in(secure, 0, 1)) {
                return error(-2);
            }
            if (net().slackOf(a) != net().slackOf(b)) {
                return error(-3);
            }
            int borne = -1;
            int beyond = 10000;
            if (!net().bears(secure == 1)) {
                return -1;
            }
            while (beyond - borne > 1) {
                int t = (borne + beyond) / 2;
                if (net().fedBy(a, t).fedBy(b, -t).bears(secure == 1)) {
                    borne = t;
                } else {
                    beyond = t;
                }
            }
            return borne;
        }

        long count(int what) {
            Net net = net();
            long found = 0;
            switch (what) {
                case 0:
                    for (int i = 0; i < n; i++) {
                        found += net.slackOf(i) == i ? 1 : 0;
                    }
                    return found;
                case 1: return lines.size();
                case 2: return lines.stream().filter(Line::on).count();
                case 3:
                    for (int l = 0; l < lines.size(); l++) {
                        found += net.isBridge(l) ? 1 : 0;
                    }
                    return found;
                case 4: return net.overloads();
                case 5: return ranking(false).stream().filter(o -> o.loading.compareTo(Fraction.ONE) > 0).count();
                case 6: return ranking(true).stream().filter(o -> o.loading.compareTo(Fraction.ONE) > 0).count();
                default: return error(-2);
            }
        }

        long type(int c) {
            if (!in(c, 0, 127)) {
                return error(-2);
            }
            if (text.length() == 120) {
                return error(-4);
            }
            text += (char) c;
            return text.length();
        }

        long clear() {
            int before = text.length();
            text = "";
            return before;
        }

        static final String NUMBER = "[0-9]{1,3}";
        static final String TWO = " *" + NUMBER + " +" + NUMBER;
        static final Pattern COMMANDS = Pattern.compile("( *("
            + "bus *" + NUMBER + "( +| *-)" + NUMBER
            + "|line" + TWO + " +" + NUMBER + " +" + NUMBER
            + "|(limit|strength)" + TWO
            + "|(open|close|drop|begin) *" + NUMBER
            + ") *;)+ *");

        static boolean canGoOn(String start) {
            Matcher matcher = COMMANDS.matcher(start);
            return matcher.matches() || matcher.hitEnd();
        }

        static boolean isLetter(String text, int i) {
            return i >= 0 && i < text.length() && text.charAt(i) >= 'a' && text.charAt(i) <= 'z';
        }

        static int fault(String text) {
            if (COMMANDS.matcher(text).matches()) {
                return -1;
            }
            int at = 0;
            while (at < text.length() && canGoOn(text.substring(0, at + 1))) {
                at++;
            }
            int word = at;
            while (isLetter(text, word - 1)) {
                word--;
            }
            boolean known = Arrays.asList(Texts.WORDS).contains(text.substring(word, at));
            boolean wordIsWrong = isLetter(text, at) || word < at && !known;
            return wordIsWrong ? word : at;
        }

        long does() {
            int fault = fault(text);
            if (fault >= 0) {
                return -10 - fault;
            }
            keep();
            inText = true;
            long done = 0;
            for (String command : text.split(";")) {
                if (!command.isBlank()) {
                    done += obey(command) ? 1 : 0;
                }
            }
            inText = false;
            return done;
        }

        boolean obey(String command) {
            Matcher words = Pattern.compile("[a-z]+").matcher(command);
            words.find();
            List<Integer> v = new ArrayList<>();
            Matcher numbers = Pattern.compile("-?[0-9]+").matcher(command);
            while (numbers.find()) {
                v.add(Integer.parseInt(numbers.group()));
            }
            switch (words.group()) {
                // An injection before can look like an error.
                case "bus":
                    feeds(v.get(0), v.get(1));
                    return isBus(v.get(0)) && in(v.get(1), -99, 99);
                case "line": return line(v.get(0), v.get(1), v.get(2), v.get(3)) >= 0;
                case "open": return switches(v.get(0), 0) >= 0;
                case "close": return switches(v.get(0), 1) >= 0;
                case "limit": return sets(v.get(0), 1, v.get(1)) >= 0;
                case "strength": return sets(v.get(0), 0, v.get(1)) >= 0;
                case "drop": return drops(v.get(0)) >= 0;
                default: return begins(v.get(0)) >= 0;
            }
        }

        long back() {
            if (kept.isEmpty()) {
                return error(-3);
            }
            Net before = kept.removeLast();
            own = before.own;
            n = own.length;
            lines = before.lines;
            return kept.size();
        }

        long told(int what) {
            if (!in(what, 0, 6)) {
                return error(-2);
            }
            return new long[] {errors[0], errors[1], errors[2], n, lines.size(), text.length(), kept.size()}[what];
        }

        long digest() {
            List<Long> all = new ArrayList<>();
            for (int what = 0; what <= 6; what++) {
                all.add(told(what));
            }
            for (int i = 0; i < n; i++) {
                all.add(own[i]);
                all.add(island(i));
            }
            for (int l = 0; l < lines.size(); l++) {
                for (int what = 0; what <= 5; what++) {
                    all.add(of(l, what));
                }
                all.add(flow(l, 0));
                all.add(flow(l, 1));
            }
            all.add(worst(-1, 0));
            for (int what = 0; what <= 5; what++) {
                all.add(count(what));
            }
            long h = 1898;
            for (long number : all) {
                h = 31 * h + number;
            }
            return h;
        }
    }
}
