import java.lang.annotation.Retention;
import java.lang.annotation.RetentionPolicy;
import java.lang.reflect.InvocationTargetException;
import java.lang.reflect.Method;
import java.math.BigInteger;
import java.util.ArrayDeque;
import java.util.ArrayList;
import java.util.Arrays;
import java.util.Comparator;
import java.util.Deque;
import java.util.List;
import java.util.Set;
import java.util.TreeSet;

/**
 * A test for each sentence of the document that names a boundary case: too small, too large, empty, full,
 * a wrap-around, a refused call. The annotation of a test quotes the sentence that it holds, and tells where in
 * the document it stands: a part of the Description, or the number of a promise. The due answers are worked out
 * by hand.
 */
public final class BoundaryTest {
    private static final int NONE = -1, BAD = -2, NO = -3, FULL = -4;
    private static final int LEAST = Integer.MIN_VALUE, GREATEST = Integer.MAX_VALUE;
    private static final int PROMISES = 28;
    private static final String[] WORDS = {"bus", "line", "open", "close", "limit", "strength", "drop", "begin"};

    private static int wrong = 0;
    private static int row = 0;
    private static String sentence = "";

    /** The sentence that a test holds, and where it stands. */
    @Retention(RetentionPolicy.RUNTIME)
    private @interface Says {
        String at();

        String text();
    }

    private interface Make {
        OutageScreen made();
    }

    private interface Call {
        long on(OutageScreen x);
    }

    public static void main(String[] args) throws IllegalAccessException {
        List<Method> tests = new ArrayList<>();
        Set<String> places = new TreeSet<>();
        for (Method m : BoundaryTest.class.getDeclaredMethods()) {
            if (m.isAnnotationPresent(Says.class)) {
                tests.add(m);
                places.add(m.getAnnotation(Says.class).at());
            }
        }
        tests.sort(Comparator.comparing(Method::getName));
        for (Method test : tests) {
            run(test);
        }
        for (int p = 1; p <= PROMISES; p++) {
            if (!places.contains("Promise " + p)) {
                wrong++;
                System.out.println("no test for promise " + p);
            }
        }
        System.out.println("BoundaryTest: " + tests.size() + " tests, " + wrong + " wrong");
        if (wrong != 0) {
            System.exit(1);
        }
    }

    private static void run(Method test) throws IllegalAccessException {
        Says says = test.getAnnotation(Says.class);
        sentence = says.at() + ", '" + says.text() + "' (" + test.getName() + ")";
        row = 0;
        try {
            test.invoke(null);
        } catch (InvocationTargetException thrown) {
            wrong++;
            System.out.println(sentence + ": after answer " + row + " " + thrown.getCause());
        }
        if (row == 0) {
            wrong++;
            System.out.println(sentence + ": looks at nothing");
        }
    }

    // ---- what the tests ask

    private static void due(long got, long want) {
        row++;
        if (got != want) {
            wrong++;
            System.out.println(sentence + ", answer " + row + ": answered " + got + ", due is " + want);
        }
    }

    private static void fraction(long top, long bottom, long wantTop, long wantBottom) {
        due(top, wantTop);
        due(bottom, wantBottom);
    }

    /** The call answers this, is counted once as this error, and nothing else changes. */
    private static void refuses(Make make, long answer, int code, Call... calls) {
        for (Call call : calls) {
            OutageScreen x = make.made();
            OutageScreen twin = make.made();
            due(call.on(x), answer);
            counted(x, twin, code);
            same(x, twin);
        }
    }

    private static void bad(Make make, Call... calls) {
        refuses(make, BAD, BAD, calls);
    }

    private static void no(Make make, Call... calls) {
        refuses(make, NO, NO, calls);
    }

    private static void full(Make make, Call... calls) {
        refuses(make, FULL, FULL, calls);
    }

    /** The call answers this, no error is counted, and nothing changes. */
    private static void asks(Make make, long answer, Call... calls) {
        refuses(make, answer, 0, calls);
    }

    /** The call answers this, no error is counted, and the grid as it was before is kept. */
    private static void changes(Make make, long answer, Call... calls) {
        for (Call call : calls) {
            OutageScreen x = make.made();
            OutageScreen twin = make.made();
            due(call.on(x), answer);
            counted(x, twin, 0);
            due(x.told(6), twin.told(6) + 1);
            due(x.back(), twin.told(6));
            same(x, twin);
        }
    }

    // The error code, one of BAD, NO and FULL, occurred once more in x; 0 for none of them.
    private static void counted(OutageScreen x, OutageScreen twin, int code) {
        for (int what = 0; what <= 2; what++) {
            due(x.told(what), twin.told(what) + (code == BAD - what ? 1 : 0));
        }
    }

    private static void same(OutageScreen x, OutageScreen twin) {
        List<Long> one = inside(x);
        List<Long> other = inside(twin);
        due(one.size(), other.size());
        for (int i = 0; i < Math.min(one.size(), other.size()); i++) {
            due(one.get(i), other.get(i));
        }
    }

    // Everything but the three counts of errors: the grid, all kept ones, and what the text does.
    private static List<Long> inside(OutageScreen x) {
        List<Long> all = new ArrayList<>();
        all.add(bareDigest(x));
        // At most 8 grids are kept, so that the ninth back() has none.
        for (int i = 0; i < 9; i++) {
            all.add((long) x.back());
            all.add(bareDigest(x));
        }
        all.add((long) x.does());
        all.add(bareDigest(x));
        return all;
    }

    // The digest as it would be if no error had occurred: its first three numbers are the counts of errors.
    private static long bareDigest(OutageScreen x) {
        int numbers = 7 + 2 * x.told(3) + 8 * x.told(4) + 7;
        long h = x.digest();
        for (int what = 0; what <= 2; what++) {
            long times = 1;
            for (int after = numbers - 1 - what; after > 0; after--) {
                times *= 31;
            }
            h -= times * x.told(what);
        }
        return h;
    }

    // ---- grids

    private static void write(OutageScreen x, String text) {
        x.clear();
        for (int i = 0; i < text.length(); i++) {
            x.type(text.charAt(i));
        }
    }

    private static int does(OutageScreen x, String text) {
        write(x, text);
        return x.does();
    }

    private static OutageScreen fresh() {
        return new OutageScreen();
    }

    private static OutageScreen buses(int n) {
        OutageScreen x = new OutageScreen();
        x.begins(n);
        return x;
    }

    // Three buses in a ring with the susceptances 1, 2 and 1. With p and q fed at the buses 1 and 2 their angles
    // are (3p + 2q) / 5 and (2p + 3q) / 5; here they are 3 and 2, and the flows are -3, 2 and -2.
    private static OutageScreen ring() {
        OutageScreen x = buses(3);
        x.line(0, 1, 1, 30);
        x.line(1, 2, 2, 30);
        x.line(0, 2, 1, 15);
        x.feeds(0, 4);
        x.feeds(1, 5);
        write(x, "bus 2 7;");
        return x;
    }

    private static Make ringWith(String text) {
        return () -> {
            OutageScreen x = ring();
            write(x, text);
            return x;
        };
    }

    // The ring without line 2: lines 0 and 1 are bridges then, and the flows are -5, 0 and 0.
    private static OutageScreen chain() {
        OutageScreen x = ring();
        x.switches(2, 0);
        return x;
    }

    // Buses 0 and 1 with two lines, bus 2 behind a bridge, buses 3 and 4 apart, bus 5 alone.
    private static OutageScreen parts() {
        OutageScreen x = buses(6);
        x.line(0, 1, 1, 100);
        x.line(1, 0, 3, 100);
        x.line(2, 1, 2, 100);
        x.line(3, 4, 5, 100);
        x.feeds(3, 9);
        write(x, "open 2;");
        return x;
    }

    // Ten lines from bus 0 to bus 1 with the susceptances 1, 1, 2, 2 up to 5, 5: the sum is 30.
    // Bus 1 feeds 90, so that a line carries 3 for each unit of its susceptance.
    private static OutageScreen tenLines() {
        OutageScreen x = buses(2);
        for (int l = 0; l < 10; l++) {
            x.line(0, 1, 1 + l / 2, 9);
        }
        x.feeds(1, 90);
        write(x, "drop 9;");
        return x;
    }

    // The largest grid: bus 0 in the middle of a ring of five, ten lines of susceptance 5. It has 121 trees.
    private static OutageScreen wheel() {
        OutageScreen x = buses(6);
        for (int i = 1; i <= 5; i++) {
            x.line(0, i, 5, 999);
            x.line(i, i % 5 + 1, 5, 999);
        }
        int[] own = {99, 99, -99, 99, 99, 98};
        for (int i = 0; i < 6; i++) {
            x.feeds(i, own[i]);
        }
        return x;
    }

    // Lines of susceptance 2 and 4 the other way; 3 flow from bus 1: the angle is 3/6, the flows are -1 and 2.
    private static OutageScreen two() {
        OutageScreen x = buses(2);
        x.line(0, 1, 2, 10);
        x.line(1, 0, 4, 20);
        x.feeds(1, 3);
        return x;
    }

    // One line, which carries as much as bus 1 feeds, with the limit 10.
    private static OutageScreen one(int fed) {
        OutageScreen x = buses(2);
        x.line(1, 0, 3, 10);
        x.feeds(1, fed);
        return x;
    }

    private static OutageScreen fullText() {
        OutageScreen x = new OutageScreen();
        write(x, "begin2;begin3;" + " ".repeat(106));
        return x;
    }

    // ---- What it is

    @Says(at = "What it is", text = "An object is used for at most 512 calls after it has been made")
    private static void a0AllCallsOfAnObject() {
        OutageScreen x = new OutageScreen();
        OutageScreen y = new OutageScreen();
        OutageScreen z = new OutageScreen();
        for (int call = 1; call < 512; call++) {
            x.told(7);
            y.back();
            z.feeds(0, call % 90);
        }
        due(x.told(0), 511);
        due(y.told(1), 511);
        due(z.back(), 7);
        OutageScreen f = tenLines();
        int made = 12 + 8;
        for (int call = made + 1; call < 512; call++) {
            f.line(0, 1, 1, 1);
        }
        due(f.told(2), 511 - made);
    }

    // ---- ERRORS

    @Says(at = "ERRORS", text = "The error codes are BAD (-2)")
    private static void b0Codes() {
        due(OutageScreen.NONE, NONE);
        due(OutageScreen.BAD, BAD);
        due(OutageScreen.NO, NO);
        due(OutageScreen.FULL, FULL);
        due(fresh().begins(1), OutageScreen.BAD);
        due(fresh().back(), OutageScreen.NO);
        due(tenLines().line(0, 1, 1, 1), OutageScreen.FULL);
        due(fresh().ranked(0), OutageScreen.NONE);
    }

    @Says(at = "ERRORS", text = "If several of them apply to one call, the first one in this list is returned.")
    private static void b1BadBeforeFull() {
        bad(BoundaryTest::tenLines, x -> x.line(0, 0, 1, 1), x -> x.line(-1, 1, 1, 1), x -> x.line(0, 2, 1, 1),
            x -> x.line(0, 1, 0, 1), x -> x.line(0, 1, 6, 1), x -> x.line(0, 1, 1, 0), x -> x.line(0, 1, 1, 1000));
        bad(BoundaryTest::fullText, x -> x.type(128), x -> x.type(-1));
    }

    @Says(at = "ERRORS", text = "If several of them apply to one call, the first one in this list is returned.")
    private static void b2BadBeforeNo() {
        // Line 2 is out of service, and line 0 is a bridge.
        bad(BoundaryTest::chain, x -> x.outage(3, 2, 0), x -> x.outage(-1, 2, 0), x -> x.outage(0, 2, 2),
            x -> x.outage(0, 2, -1));
        bad(BoundaryTest::chain, x -> x.spread(3, 2, 0), x -> x.spread(-1, 2, 0), x -> x.spread(0, 2, 2),
            x -> x.spread(0, 2, -1), x -> x.spread(3, 0, 0), x -> x.spread(1, 0, 2));
        bad(BoundaryTest::chain, x -> x.worst(2, 4), x -> x.worst(2, -1));
        bad(BoundaryTest::parts, x -> x.transfer(0, 3, 2), x -> x.transfer(0, 3, -1), x -> x.transfer(5, 6, 0));
    }

    @Says(at = "ERRORS", text = "Some methods return other numbers in place of them.")
    private static void b3OtherNumbers() {
        refuses(BoundaryTest::ring, -99999, BAD, x -> x.fed(3));
        refuses(BoundaryTest::ring, -9999, BAD, x -> x.shift(3));
        refuses(BoundaryTest::ring, -9998, NO, x -> x.shift(2));
    }

    @Says(at = "ERRORS", text = "It is counted how often each of the three occurred, also in queries")
    private static void b4EachIsCounted() {
        OutageScreen x = tenLines();
        Call[] bads = {y -> y.begins(7), y -> y.feeds(2, 0), y -> y.line(0, 0, 1, 1), y -> y.drops(10),
            y -> y.switches(10, 0), y -> y.sets(10, 0, 1), y -> y.of(10, 0), y -> y.flow(10, 0),
            y -> y.angle(2, 0), y -> y.factor(10, 0, 0), y -> y.island(2), y -> y.trees(2), y -> y.fed(2),
            y -> y.outage(10, 0, 0), y -> y.spread(10, 0, 0), y -> y.worst(10, 0), y -> y.ranked(-1),
            y -> y.pair(-1, 0), y -> y.shift(10), y -> y.transfer(0, 0, 0), y -> y.count(7), y -> y.type(128),
            y -> y.told(7)};
        for (int i = 0; i < bads.length; i++) {
            bads[i].on(x);
            due(x.told(0), i + 1);
        }
        x.switches(0, 0);
        Call[] nos = {y -> y.outage(1, 0, 0), y -> y.spread(1, 0, 0), y -> y.worst(0, 0), y -> y.shift(1)};
        for (int i = 0; i < nos.length; i++) {
            nos[i].on(x);
            due(x.told(1), i + 1);
        }
        for (int i = 1; i <= 3; i++) {
            x.line(0, 1, 1, 1);
            due(x.told(2), i);
        }
        due(x.told(0), bads.length);
        due(x.told(1), nos.length);
    }

    @Says(at = "ERRORS", text = "a call that returns an error changes nothing else.")
    private static void b5NothingElseChanges() {
        OutageScreen x = tenLines();
        OutageScreen twin = tenLines();
        x.begins(1);
        x.feeds(1, 100);
        x.line(0, 1, 1, 1);
        x.line(1, 1, 1, 1);
        x.drops(10);
        x.switches(0, 2);
        x.switches(10, 0);
        x.sets(0, 0, 6);
        x.sets(0, 1, 1000);
        x.type(128);
        x.told(7);
        x.transfer(0, 0, 0);
        same(x, twin);
    }

    @Says(at = "ERRORS", text = "it is returned only if no error applies.")
    private static void b6NoneGivesWayToErrors() {
        // Each of these calls would have no value, and is wrong besides.
        bad(BoundaryTest::fresh, x -> x.worst(NONE, 4), x -> x.worst(NONE, -1), x -> x.pair(0, 4),
            x -> x.pair(GREATEST, -1), x -> x.pair(-1, 0), x -> x.ranked(-1));
        Make overloaded = () -> {
            OutageScreen x = parts();
            x.sets(3, 1, 1);
            x.feeds(4, 2);
            return x;
        };
        asks(overloaded, NONE, x -> x.transfer(0, 1, 0));
        bad(overloaded, x -> x.transfer(0, 0, 0), x -> x.transfer(0, 6, 0), x -> x.transfer(0, 1, 2));
        no(overloaded, x -> x.transfer(0, 3, 0), x -> x.transfer(5, 0, 1));
    }

    @Says(at = "ERRORS", text = "NONE (-1) means that there is no such value")
    private static void b7NoneIsNoError() {
        asks(BoundaryTest::fresh, NONE, x -> x.worst(NONE, 0), x -> x.ranked(0), x -> x.pair(0, 0));
        asks(() -> one(11), NONE, x -> x.transfer(0, 1, 0), x -> x.transfer(1, 0, 1), x -> x.worst(0, 0));
    }

    @Says(at = "ERRORS", text = "Fractions are in lowest terms with a positive denominator")
    private static void b8LowestTerms() {
        OutageScreen x = two();
        fraction(x.angle(1, 0), x.angle(1, 1), 1, 2);
        fraction(x.flow(0, 0), x.flow(0, 1), -1, 1);
        fraction(x.flow(1, 0), x.flow(1, 1), 2, 1);
        fraction(x.factor(0, 1, 0), x.factor(0, 1, 1), -1, 3);
        fraction(x.factor(1, 1, 0), x.factor(1, 1, 1), 2, 3);
        fraction(x.outage(0, 1, 0), x.outage(0, 1, 1), -3, 1);
        fraction(x.spread(0, 1, 0), x.spread(0, 1, 1), -1, 1);
        fraction(x.worst(NONE, 1), x.worst(NONE, 2), 1, 10);
        x.line(0, 1, 4, 20);
        // Without line 0 the other two share its flow, against the direction of line 1.
        fraction(x.spread(1, 0, 0), x.spread(1, 0, 1), -1, 2);
        fraction(x.spread(2, 0, 0), x.spread(2, 0, 1), 1, 2);
        x.feeds(1, -4);
        fraction(x.angle(1, 0), x.angle(1, 1), -2, 5);
        fraction(x.outage(1, 2, 0), x.outage(1, 2, 1), -8, 3);
        fraction(x.pair(0, 2), x.pair(0, 3), 2, 5);
        fraction(x.worst(0, 1), x.worst(0, 2), 1, 10);
    }

    @Says(at = "ERRORS", text = "(0 is 0/1)")
    private static void b9Zero() {
        OutageScreen x = two();
        x.feeds(1, 0);
        fraction(x.angle(1, 0), x.angle(1, 1), 0, 1);
        fraction(x.flow(0, 0), x.flow(0, 1), 0, 1);
        fraction(x.factor(0, 0, 0), x.factor(0, 0, 1), 0, 1);
        fraction(x.outage(0, 1, 0), x.outage(0, 1, 1), 0, 1);
        fraction(x.outage(0, 0, 0), x.outage(0, 0, 1), 0, 1);
        fraction(x.spread(1, 1, 0), x.spread(1, 1, 1), 0, 1);
        fraction(x.worst(NONE, 1), x.worst(NONE, 2), 0, 1);
        fraction(x.worst(0, 1), x.worst(0, 2), 0, 1);
        fraction(x.pair(0, 2), x.pair(0, 3), 0, 1);
        x.line(0, 1, 5, 999);
        fraction(x.pair(0, 2), x.pair(0, 3), 0, 1);
    }

    // ---- THE GRID

    @Says(at = "THE GRID", text = "There are N buses, 0 to N - 1, with N from 2 to 6; N is 4 at first.")
    private static void c0Buses() {
        due(fresh().told(3), 4);
        for (int n = 2; n <= 6; n++) {
            int count = n;
            due(buses(n).told(3), n);
            asks(() -> buses(count), 0, x -> x.island(0));
            asks(() -> buses(count), n - 1, x -> x.island(count - 1));
            bad(() -> buses(count), x -> x.island(count), x -> x.island(-1));
        }
    }

    @Says(at = "THE GRID", text = "Each bus has an injection from -99 to 99, 0 at first.")
    private static void c1Injections() {
        for (int i = 0; i < 4; i++) {
            due(fresh().feeds(i, 99), 0);
        }
        OutageScreen x = one(99);
        due(x.flow(0, 0), 99);
        x.feeds(1, -99);
        due(x.flow(0, 0), -99);
    }

    @Says(at = "THE GRID", text = "There are at most 10 lines, numbered from 0, none at first.")
    private static void c2Lines() {
        due(fresh().told(4), 0);
        bad(BoundaryTest::fresh, x -> x.of(0, 0));
        OutageScreen x = fresh();
        for (int l = 0; l < 10; l++) {
            due(x.line(0, 1, 1, 1), l);
        }
        due(x.line(0, 1, 1, 1), FULL);
        due(x.told(4), 10);
        due(x.of(9, 2), 1);
        due(x.of(10, 2), BAD);
    }

    @Says(at = "THE GRID", text = "(several lines can connect the same buses)")
    private static void c3SameBuses() {
        OutageScreen x = tenLines();
        for (int l = 0; l < 10; l++) {
            fraction(x.flow(l, 0), x.flow(l, 1), -3 * (1 + l / 2), 1);
        }
        due(x.trees(0), 30);
    }

    @Says(at = "THE GRID", text = "it has a susceptance (1 to 5) and a limit (1 to 999), "
        + "and is in service or out of service.")
    private static void c4LineAtItsEnds() {
        OutageScreen x = fresh();
        x.line(0, 3, 1, 999);
        x.line(3, 0, 5, 1);
        int[][] due = {{0, 3, 1, 999, 1}, {3, 0, 5, 1, 1}};
        for (int l = 0; l < 2; l++) {
            for (int what = 0; what < 5; what++) {
                due(x.of(l, what), due[l][what]);
            }
        }
        x.switches(1, 0);
        due(x.of(0, 4), 1);
        due(x.of(1, 4), 0);
    }

    @Says(at = "THE GRID", text = "The islands are the sets of buses that are connected by lines in service.")
    private static void c5Islands() {
        OutageScreen x = chain();
        due(x.count(0), 1);
        due(x.island(2), 0);
        x.switches(0, 0);
        due(x.island(1), 1);
        due(x.island(2), 1);
        x.switches(1, 0);
        // All lines are there, none is in service.
        due(x.count(0), 3);
        for (int i = 0; i < 3; i++) {
            due(x.island(i), i);
        }
    }

    @Says(at = "THE GRID", text = "The bus with the lowest number of an island is its slack bus")
    private static void c6SlackBus() {
        // The lines come in an order that joins the high buses first.
        OutageScreen x = buses(6);
        x.line(5, 4, 1, 9);
        x.line(3, 2, 1, 9);
        x.line(5, 3, 1, 9);
        for (int i = 0; i < 6; i++) {
            due(x.island(i), Math.min(i, 2));
        }
        x.line(1, 4, 1, 9);
        for (int i = 0; i < 6; i++) {
            due(x.island(i), Math.min(i, 1));
        }
    }

    @Says(at = "THE GRID", text = "in place of its own injection it has the one that makes "
        + "the sum of all injections of the island 0.")
    private static void c7SumIsZero() {
        OutageScreen x = buses(6);
        for (int i = 0; i < 6; i++) {
            x.feeds(i, 99);
            due(x.fed(i), 0);
        }
        for (int i = 1; i < 6; i++) {
            x.line(0, i, 1, 999);
            due(x.fed(0), -99 * i);
            due(x.fed(i), 99);
        }
        for (int i = 0; i < 6; i++) {
            x.feeds(i, -99);
        }
        due(x.fed(0), 495);
    }

    @Says(at = "THE GRID", text = "The angle of a slack bus is 0.")
    private static void c8SlackAngle() {
        OutageScreen x = parts();
        for (int i = 0; i < 6; i++) {
            x.feeds(i, 99);
        }
        for (int slack : new int[] {0, 3, 5}) {
            fraction(x.angle(slack, 0), x.angle(slack, 1), 0, 1);
        }
        fraction(x.angle(4, 0), x.angle(4, 1), 99, 5);
    }

    @Says(at = "THE GRID", text = "that of a line out of service is 0. (There is exactly one solution.)")
    private static void c9FlowsOfTheLargestGrid() {
        OutageScreen x = wheel();
        long whole = x.trees(0);
        due(whole, 378125);
        long[] sum = new long[6];
        for (int l = 0; l < 10; l++) {
            long flow = x.flow(l, 0) * (whole / x.flow(l, 1));
            due(whole % x.flow(l, 1), 0);
            sum[x.of(l, 0)] += flow;
            sum[x.of(l, 1)] -= flow;
        }
        for (int i = 0; i < 6; i++) {
            due(sum[i], whole * x.fed(i));
        }
        for (int l = 0; l < 10; l++) {
            x.switches(l, 0);
        }
        for (int l = 0; l < 10; l++) {
            fraction(x.flow(l, 0), x.flow(l, 1), 0, 1);
        }
    }

    @Says(at = "THE GRID", text = "The factor of a line for a bus is by how much the flow of the line would "
        + "increase if the injection of this bus were greater by 1.")
    private static void cAFactorAtTheGreatestInjection() {
        // 100 would be out of range for feeds(), the factor is asked all the same.
        OutageScreen x = one(99);
        fraction(x.factor(0, 1, 0), x.factor(0, 1, 1), 1, 1);
        // The slack bus takes its own 1 back; a bus of another island does not reach the line.
        fraction(x.factor(0, 0, 0), x.factor(0, 0, 1), 0, 1);
        OutageScreen y = parts();
        fraction(y.factor(0, 4, 0), y.factor(0, 4, 1), 0, 1);
        fraction(y.factor(0, 5, 0), y.factor(0, 5, 1), 0, 1);
        fraction(y.factor(3, 2, 0), y.factor(3, 2, 1), 0, 1);
    }

    @Says(at = "THE GRID", text = "A line is overloaded if its loading is greater than 1.")
    private static void cBOverloaded() {
        asks(() -> one(9), 0, x -> x.count(4), x -> x.worst(NONE, 3));
        asks(() -> one(10), 0, x -> x.count(4), x -> x.worst(NONE, 3));
        asks(() -> one(11), 1, x -> x.count(4), x -> x.worst(NONE, 3));
        asks(() -> one(-10), 0, x -> x.count(4), x -> x.worst(NONE, 3));
        asks(() -> one(-11), 1, x -> x.count(4), x -> x.worst(NONE, 3));
        // 15 and a fifth over the limit 15.
        OutageScreen x = ring();
        x.feeds(1, 38);
        fraction(x.worst(NONE, 1), x.worst(NONE, 2), 76, 75);
        due(x.count(4), 1);
    }

    @Says(at = "THE GRID", text = "it is 1 for a single bus.")
    private static void cCWeightOfASingleBus() {
        asks(BoundaryTest::fresh, 1, x -> x.trees(0), x -> x.trees(3));
        asks(BoundaryTest::parts, 1, x -> x.trees(5));
        OutageScreen x = chain();
        x.switches(0, 0);
        due(x.trees(0), 1);
        due(x.trees(1), 2);
    }

    // ---- OUTAGES

    @Says(at = "OUTAGES", text = "The line is a bridge if its island is divided into two by that.")
    private static void d0Bridge() {
        asks(BoundaryTest::ring, 0, x -> x.of(0, 5), x -> x.of(1, 5), x -> x.of(2, 5), x -> x.count(3));
        asks(BoundaryTest::chain, 1, x -> x.of(0, 5), x -> x.of(1, 5));
        // Of two lines between the same buses none is a bridge; the islands beside do not matter.
        asks(BoundaryTest::parts, 0, x -> x.of(0, 5), x -> x.of(1, 5));
        asks(BoundaryTest::parts, 1, x -> x.of(2, 5), x -> x.of(3, 5));
        asks(() -> one(0), 1, x -> x.of(0, 5), x -> x.count(3));
    }

    @Says(at = "OUTAGES", text = "If l is in service, is not k, and is in the same island, it is")
    private static void d1OtherwiseZero() {
        Make make = () -> {
            OutageScreen x = parts();
            x.line(0, 1, 1, 9);
            x.line(4, 3, 2, 9);
            x.switches(4, 0);
            return x;
        };
        // Line 4 is out of service, line 0 is k itself, lines 3 and 5 are in another island.
        for (int l : new int[] {4, 0, 3, 5}) {
            asks(make, 0, x -> x.spread(l, 0, 0));
            asks(make, 1, x -> x.spread(l, 0, 1));
        }
        asks(make, -1, x -> x.spread(1, 0, 0), x -> x.spread(0, 1, 0));
        asks(make, -1, x -> x.spread(3, 5, 0));
        asks(make, 1, x -> x.spread(3, 5, 1));
    }

    @Says(at = "OUTAGES", text = "of several the one with the lowest number; its loading is the worst loading.")
    private static void d2LowestOfEqualOnes() {
        // All ten lines carry the same share of their limits.
        OutageScreen x = buses(2);
        for (int l = 0; l < 10; l++) {
            x.line(0, 1, 1 + l / 2, 10 * (1 + l / 2));
        }
        x.feeds(1, 60);
        due(x.worst(NONE, 0), 0);
        fraction(x.worst(NONE, 1), x.worst(NONE, 2), 1, 5);
        due(x.worst(0, 0), 1);
        x.switches(0, 0);
        x.switches(1, 0);
        due(x.worst(NONE, 0), 2);
        x.feeds(1, 0);
        due(x.worst(NONE, 0), 2);
        due(x.worst(2, 0), 3);
    }

    @Says(at = "OUTAGES", text = "If no line is in service, there is no worst line, and the worst loading is 0.")
    private static void d3NoLineInService() {
        Make dark = () -> {
            OutageScreen x = one(99);
            x.switches(0, 0);
            return x;
        };
        for (Make make : List.<Make>of(BoundaryTest::fresh, dark)) {
            asks(make, NONE, x -> x.worst(NONE, 0));
            asks(make, 0, x -> x.worst(NONE, 1), x -> x.worst(NONE, 3));
            asks(make, 1, x -> x.worst(NONE, 2));
        }
        // After the outage of the only line too.
        asks(() -> one(99), NONE, x -> x.worst(0, 0));
        asks(() -> one(99), 0, x -> x.worst(0, 1), x -> x.worst(0, 3));
        asks(() -> one(99), 1, x -> x.worst(0, 2));
    }

    @Says(at = "OUTAGES", text = "A double outage is the state in which two different lines "
        + "that are in service now are out of service.")
    private static void d4TwoDifferentLines() {
        asks(() -> one(99), NONE, x -> x.pair(0, 0));
        asks(() -> one(99), 0, x -> x.count(6));
        asks(BoundaryTest::two, 0, x -> x.pair(0, 0), x -> x.pair(0, 2));
        asks(BoundaryTest::two, 1, x -> x.pair(0, 1), x -> x.pair(0, 3));
        asks(BoundaryTest::two, NONE, x -> x.pair(1, 0));
        // Line 2 of the chain is out of service already: only 0 and 1 make a pair.
        asks(BoundaryTest::chain, 1, x -> x.pair(0, 1));
        asks(BoundaryTest::chain, NONE, x -> x.pair(1, 0));
    }

    // 1, 0 or -1, as the first fraction is greater, the same or less.
    private static int compare(long top, long bottom, long otherTop, long otherBottom) {
        return BigInteger.valueOf(top).multiply(BigInteger.valueOf(otherBottom))
            .compareTo(BigInteger.valueOf(otherTop).multiply(BigInteger.valueOf(bottom)));
    }

    @Says(at = "OUTAGES", text = "The worst line of a state is, of the lines in service, "
        + "the one with the greatest loading")
    private static void d5LoadingsOfTheLargestGrid() {
        OutageScreen x = wheel();
        for (int l = 0; l < 10; l++) {
            x.sets(l, 1, 999 - 7 * l % 5);
        }
        int worst = 0;
        for (int l = 1; l < 10; l++) {
            long top = Math.abs(x.flow(l, 0));
            long worstTop = Math.abs(x.flow(worst, 0));
            if (compare(top, x.flow(l, 1) * x.of(l, 3), worstTop, x.flow(worst, 1) * x.of(worst, 3)) > 0) {
                worst = l;
            }
        }
        due(x.worst(NONE, 0), worst);
        due(compare(x.worst(NONE, 1), x.worst(NONE, 2),
            Math.abs(x.flow(worst, 0)), x.flow(worst, 1) * x.of(worst, 3)), 0);
        for (int i = 1; i < 10; i++) {
            int before = x.ranked(i - 1);
            int after = x.ranked(i);
            int order = compare(x.worst(before, 1), x.worst(before, 2), x.worst(after, 1), x.worst(after, 2));
            due(order > 0 || order == 0 && before < after ? 1 : 0, 1);
        }
        for (int i = 1; i < 45; i++) {
            int order = compare(x.pair(i - 1, 2), x.pair(i - 1, 3), x.pair(i, 2), x.pair(i, 3));
            due(order >= 0 ? 1 : 0, 1);
        }
    }

    // ---- COMMANDS

    @Says(at = "COMMANDS", text = "The text has at most 120 bytes and is empty at first.")
    private static void e0Text() {
        due(fresh().told(5), 0);
        due(fresh().clear(), 0);
        due(fullText().told(5), 120);
        due(fullText().does(), 2);
        full(BoundaryTest::fullText, x -> x.type(' '));
        // The last byte of a full text is read too.
        OutageScreen x = fresh();
        due(does(x, " ".repeat(113) + "begin6;"), 1);
        due(x.told(3), 6);
        due(x.told(5), 120);
    }

    @Says(at = "COMMANDS", text = "It consists of one or more commands")
    private static void e1OneOrMoreCommands() {
        due(does(fresh(), "begin 3;"), 1);
        due(does(one(1), "open0;".repeat(20)), 20);
        due(does(one(1), "open 0;".repeat(17) + " "), 17);
        due(does(fresh(), ""), -10);
        due(does(fresh(), ";"), -10);
        due(does(fresh(), "begin 3;;"), -18);
        due(does(fresh(), ";begin 3;"), -10);
    }

    private static void command(String text, Call call) {
        OutageScreen x = ringWith(text).made();
        OutageScreen twin = ringWith(text).made();
        due(x.does(), 1);
        call.on(twin);
        counted(x, twin, 0);
        same(x, twin);
    }

    @Says(at = "COMMANDS", text = "as feeds(I, V); V can have a minus sign directly in front")
    private static void e2Bus() {
        command("bus 0 0;", x -> x.feeds(0, 0));
        command("bus 2 99;", x -> x.feeds(2, 99));
        command("bus 2 -99;", x -> x.feeds(2, -99));
        command("bus 1 -0;", x -> x.feeds(1, 0));
        command("bus 1 -007;", x -> x.feeds(1, -7));
        fault("bus -1 1;", 4);
        fault("bus 1 --1;", 7);
        fault("bus 1 +1;", 6);
    }

    @Says(at = "COMMANDS", text = "as line(A, B, S, M)")
    private static void e3Line() {
        command("line 0 2 1 1;", x -> x.line(0, 2, 1, 1));
        command("line 2 0 5 999;", x -> x.line(2, 0, 5, 999));
        fault("line -0 2 1 1;", 5);
        fault("line 0 -2 1 1;", 7);
        fault("line 0 2 -1 1;", 9);
        fault("line 0 2 1 -1;", 11);
    }

    @Says(at = "COMMANDS", text = "as switches(L, 0)")
    private static void e4Open() {
        command("open 0;", x -> x.switches(0, 0));
        command("open 2;", x -> x.switches(2, 0));
        fault("open -0;", 5);
    }

    @Says(at = "COMMANDS", text = "as switches(L, 1)")
    private static void e5Close() {
        command("close 2;", x -> x.switches(2, 1));
        OutageScreen x = chain();
        due(x.of(2, 4), 0);
        due(does(x, "close 2;"), 1);
        due(x.of(2, 4), 1);
        fault("close -0;", 6);
    }

    @Says(at = "COMMANDS", text = "as sets(L, 1, M)")
    private static void e6Limit() {
        command("limit 0 1;", x -> x.sets(0, 1, 1));
        command("limit 2 999;", x -> x.sets(2, 1, 999));
        fault("limit 0 -1;", 8);
        fault("limit -0 1;", 6);
    }

    @Says(at = "COMMANDS", text = "as sets(L, 0, S)")
    private static void e7Strength() {
        command("strength 0 5;", x -> x.sets(0, 0, 5));
        command("strength 2 1;", x -> x.sets(2, 0, 1));
        fault("strength 0 -1;", 11);
        fault("strength -0 1;", 9);
    }

    @Says(at = "COMMANDS", text = "as drops(L)")
    private static void e8Drop() {
        command("drop 0;", x -> x.drops(0));
        command("drop 2;", x -> x.drops(2));
        fault("drop -0;", 5);
    }

    @Says(at = "COMMANDS", text = "as begins(N)")
    private static void e9Begin() {
        command("begin 2;", x -> x.begins(2));
        command("begin 6;", x -> x.begins(6));
        fault("begin -2;", 6);
    }

    // A text with this fault: its place is told, no error is counted, and nothing is executed or kept.
    private static void fault(String text, int at) {
        asks(ringWith(text), -10 - at, OutageScreen::does);
    }

    @Says(at = "COMMANDS", text = "A word is a longest possible sequence of letters a to z.")
    private static void f0LongestWord() {
        fault("openx 0;", 0);
        fault("busbus 0 1;", 0);
        fault("begin 2;dropz 0;", 8);
        fault("aopen 0;", 0);
        // A byte just outside a to z ends the word, and cannot stand there itself.
        fault("open`0;", 4);
        fault("open{0;", 4);
        fault("openZ0;", 4);
        fault("Open 0;", 0);
        fault("opeN 0;", 0);
        due(does(ring(), "open0;close0;"), 2);
    }

    @Says(at = "COMMANDS", text = "A number has one to three digits.")
    private static void f1Digits() {
        command("bus 0 7;", x -> x.feeds(0, 7));
        command("bus 000 07;", x -> x.feeds(0, 7));
        command("limit 0 100;", x -> x.sets(0, 1, 100));
        command("begin 002;", x -> x.begins(2));
        command("bus 1 09;", x -> x.feeds(1, 9));
        fault("begin ;", 6);
        fault("begin 0002;", 9);
        fault("bus 1 ;", 6);
        fault("bus 1 -;", 7);
        fault("begin /;", 6);
        fault("begin :;", 6);
    }

    @Says(at = "COMMANDS", text = "Blanks (byte 32) may stand anywhere except within a word, within a number, "
        + "and after a minus sign")
    private static void f2BlanksAnywhere() {
        command("   bus   1    -9   ;   ", x -> x.feeds(1, -9));
        command("  line  0  2  1  1  ;  ", x -> x.line(0, 2, 1, 1));
        due(does(ring(), " open 0 ; close 0 ; "), 2);
        // Other bytes are no blanks.
        fault("\tbegin 2;", 0);
        fault("begin\n2;", 5);
        fault("begin 2\0;", 7);
        fault("begin 2;\177", 8);
    }

    @Says(at = "COMMANDS", text = "Blanks (byte 32) may stand anywhere except within a word, within a number, "
        + "and after a minus sign")
    private static void f3BlanksNotWithin() {
        fault("o pen 0;", 0);
        fault("ope n 0;", 0);
        fault("begin 2;li mit 0 9;", 8);
        // With a blank within, a number is two numbers.
        fault("begin 0 2;", 8);
        fault("bus 1 1 0;", 8);
        fault("bus 1 - 9;", 7);
        fault("bus 1 - ;", 7);
        fault("bus 1 - ", 7);
    }

    @Says(at = "COMMANDS", text = "they are needed only between two numbers.")
    private static void f4BlanksNeeded() {
        command("bus1 9;", x -> x.feeds(1, 9));
        // The minus sign parts the two numbers: they do not run into one.
        command("bus1-9;", x -> x.feeds(1, -9));
        command("line0 2 1 1;", x -> x.line(0, 2, 1, 1));
        command("limit0 9;", x -> x.sets(0, 1, 9));
        command("strength0 5;", x -> x.sets(0, 0, 5));
        command("drop0;", x -> x.drops(0));
        due(does(ring(), "open0;close0;begin2;"), 3);
        // Without the blank the two are one number, and the second one is missing.
        fault("limit 09;", 8);
        fault("line 0211;", 8);
        fault("line 0 2 11;", 11);
    }

    @Says(at = "COMMANDS", text = "The fault of a text is the position, from 0, "
        + "of the first byte that cannot stand there")
    private static void f5FirstByteThatCannotStand() {
        fault(";", 0);
        fault("7", 0);
        fault("-", 0);
        fault(" ;", 1);
        fault("open;", 4);
        fault("open x;", 5);
        fault("open 0 1;", 7);
        fault("open 0-1;", 6);
        fault("open 0 open 1;", 7);
        fault("open 0;;", 7);
        fault("open 0;9", 7);
        fault("bus 1;", 5);
        fault("bus ;", 4);
        fault("bus 1 9 9;", 8);
        fault("bus 1 9-;", 7);
        fault("line 0 1 2;", 10);
        fault("line 0 1 2 3 4;", 13);
        fault("limit 0;", 7);
        fault("strength 0 1 1;", 13);
        // Of two faults it is the first.
        fault("open ;x;", 5);
        fault("bu 0 0;open;", 0);
    }

    @Says(at = "COMMANDS", text = "for a word other than these, its first letter")
    private static void f6OtherWord() {
        fault("shut 0;", 0);
        fault("  shut 0;", 2);
        fault("open 0;shut 0;", 7);
        fault("buss 0 0;", 0);
        fault("bu 0 0;", 0);
        fault("lines 0 1 1 1;", 0);
        fault("lin 0 1 1 1;", 0);
        fault("opens 0;", 0);
        fault("ope;", 0);
        fault("closed 0;", 0);
        fault("clos 0;", 0);
        fault("limits 0 1;", 0);
        fault("limi 0 1;", 0);
        fault("strengths 0 1;", 0);
        fault("strengt 0 1;", 0);
        fault("drops 0;", 0);
        fault("dro 0;", 0);
        fault("begins 2;", 0);
        fault("begi 2;", 0);
        fault("a", 0);
        fault("z", 0);
        // A single letter is another one.
        for (String word : WORDS) {
            for (int i = 0; i < word.length(); i++) {
                fault(" " + word.substring(0, i) + "x" + word.substring(i + 1) + " 0 0;", 1);
            }
        }
    }

    @Says(at = "COMMANDS", text = "(also if the text ends with the beginning of such a word)")
    private static void f7BeginningOfAWord() {
        for (String word : WORDS) {
            for (int length = 1; length < word.length(); length++) {
                fault(word.substring(0, length), 0);
                fault("begin 2; " + word.substring(0, length), 9);
            }
            // The whole word can stand there: then the text ends too early.
            fault(word, word.length());
        }
        fault("open 0;".repeat(17) + "o", 119);
    }

    @Says(at = "COMMANDS", text = "for a number that is too long, its fourth digit.")
    private static void f8FourthDigit() {
        fault("begin 2222;", 9);
        fault("begin2222;", 8);
        fault("begin 22222222;", 9);
        fault("begin 2222", 9);
        fault("bus 1234;", 7);
        fault("bus 0 1234;", 9);
        fault("bus 0 -1234;", 10);
        fault("line 0000 1 1 1;", 8);
        fault("line 0 1000 1 1;", 10);
        fault("line 0 1 1000 1;", 12);
        fault("line 0 1 1 1000;", 14);
        fault("limit 0 1000;", 11);
        fault(" ".repeat(109) + "begin 02222", 118);
    }

    @Says(at = "COMMANDS", text = "If the text ends too early otherwise, the fault is its length")
    private static void f9EndsTooEarly() {
        fault("begin", 5);
        fault("begin ", 6);
        fault("begin 2", 7);
        fault("begin 222", 9);
        fault("begin 2 ", 8);
        fault("bus 1", 5);
        fault("bus 1 ", 6);
        fault("bus 1 -", 7);
        fault("bus 1 -2", 8);
        fault("line 0 1 1", 10);
        fault("line 0 1 1 1", 12);
        fault("begin 2;begin 3;begin 4", 23);
        // In a full text too, and whatever stood behind the end before.
        fault(" ".repeat(113) + "begin 2", 120);
        OutageScreen x = fresh();
        write(x, "begin 223;");
        due(does(x, "begin 2"), -17);
        due(does(x, "begin"), -15);
    }

    @Says(at = "COMMANDS", text = "also if it is empty or contains only blanks.")
    private static void g0EmptyOrBlank() {
        fault("", 0);
        fault(" ", 1);
        fault("     ", 5);
        fault(" ".repeat(120), 120);
        due(fresh().does(), -10);
    }

    // ---- STATES

    @Says(at = "STATES", text = "keep the grid as it was before, also if nothing changes, "
        + "so that back() can restore it")
    private static void h0KeptIfNothingChanges() {
        Make settled = () -> {
            OutageScreen x = buses(2);
            x.line(0, 1, 2, 9);
            write(x, "bus 0 0;");
            return x;
        };
        changes(settled, 0, x -> x.feeds(0, 0));
        changes(settled, 1, x -> x.switches(0, 1));
        changes(settled, 2, x -> x.sets(0, 0, 2));
        changes(settled, 9, x -> x.sets(0, 1, 9));
        changes(settled, 1, OutageScreen::does);
        changes(() -> buses(2), 2, x -> x.begins(2));
        // All its commands are skipped, but the text has no fault.
        changes(ringWith("open 3;"), 0, OutageScreen::does);
    }

    @Says(at = "STATES", text = "The calls of begins(), feeds(), line(), drops(), switches(), sets() and does()")
    private static void h1SevenCallsKeep() {
        changes(BoundaryTest::ring, 3, x -> x.begins(5));
        changes(BoundaryTest::ring, 5, x -> x.feeds(1, -5));
        changes(BoundaryTest::ring, 3, x -> x.line(2, 1, 3, 3));
        changes(BoundaryTest::ring, 2, x -> x.drops(0));
        changes(BoundaryTest::ring, 1, x -> x.switches(1, 0));
        changes(BoundaryTest::ring, 1, x -> x.sets(0, 0, 3));
        changes(BoundaryTest::ring, 15, x -> x.sets(2, 1, 3));
        changes(BoundaryTest::ring, 1, OutageScreen::does);
        // Others do not.
        OutageScreen x = ring();
        due(x.told(6), 6);
        x.type('x');
        x.clear();
        x.transfer(0, 1, 1);
        x.pair(0, 0);
        due(x.told(6), 6);
    }

    @Says(at = "STATES", text = "that return no error and no fault")
    private static void h2ErrorsAndFaultsKeepNothing() {
        bad(BoundaryTest::ring, x -> x.begins(7), x -> x.feeds(3, 0), x -> x.line(0, 0, 1, 1), x -> x.drops(3),
            x -> x.switches(3, 0), x -> x.sets(3, 0, 1));
        full(BoundaryTest::tenLines, x -> x.line(0, 1, 1, 1));
        asks(ringWith("bus 2 7"), -17, OutageScreen::does);
        // An injection of -2, -3 or -4 that was there before is no error.
        for (int before = -4; before <= -1; before++) {
            int v = before;
            changes(() -> {
                OutageScreen x = fresh();
                x.feeds(1, v);
                return x;
            }, v, x -> x.feeds(1, 8));
        }
    }

    @Says(at = "STATES", text = "at most 8 such states are kept, and when there is another one, "
        + "the oldest is forgotten.")
    private static void h3OldestIsForgotten() {
        OutageScreen x = fresh();
        for (int v = 1; v <= 8; v++) {
            x.feeds(0, v);
            due(x.told(6), v);
        }
        x.feeds(0, 9);
        due(x.told(6), 8);
        for (int left = 7; left >= 0; left--) {
            due(x.back(), left);
        }
        // The state with 0 is forgotten, the one with 1 was kept.
        due(x.back(), NO);
        due(x.feeds(0, 0), 1);
    }

    @Says(at = "STATES", text = "at most 8 such states are kept, and when there is another one, "
        + "the oldest is forgotten.")
    private static void h4TheRingGoesRound() {
        OutageScreen x = fresh();
        Deque<Integer> kept = new ArrayDeque<>();
        int now = 0;
        int[] changesAndBacks = {5, -3, 7, -8, 0, 3, -1, 20, -5, 4, -7, 9, -8};
        for (int steps : changesAndBacks) {
            for (int i = 0; i < steps; i++) {
                kept.addLast(now);
                if (kept.size() > 8) {
                    kept.removeFirst();
                }
                int next = (now + 7) % 99 + (i & 1);
                due(x.feeds(2, next), now);
                now = next;
            }
            for (int i = 0; i > steps; i--) {
                now = kept.isEmpty() ? now : kept.removeLast();
                due(x.back(), kept.size());
            }
            due(x.told(6), kept.size());
        }
        due(x.back(), NO);
        due(x.feeds(2, 0), now);
    }

    // ---- Promise 1: A new object

    @Says(at = "Promise 1", text = "Creates a grid with 4 buses, without lines, "
        + "with an empty text and no kept states.")
    private static void p01NewObject() {
        int[] told = {0, 0, 0, 4, 0, 0, 0};
        for (int what = 0; what <= 6; what++) {
            int asked = what;
            asks(BoundaryTest::fresh, told[what], x -> x.told(asked));
        }
        no(BoundaryTest::fresh, OutageScreen::back);
        asks(BoundaryTest::fresh, -10, OutageScreen::does);
        asks(BoundaryTest::fresh, 0, OutageScreen::clear);
        bad(BoundaryTest::fresh, x -> x.of(0, 0), x -> x.island(4));
        asks(BoundaryTest::fresh, 3, x -> x.island(3));
        // Two objects have nothing in common.
        OutageScreen x = tenLines();
        OutageScreen y = fresh();
        x.line(0, 1, 1, 1);
        same(y, fresh());
        due(y.told(2), 0);
    }

    // ---- Promise 2: begins

    @Says(at = "Promise 2", text = "Creates a new grid without lines, in which all injections are 0.")
    private static void p02NewGrid() {
        OutageScreen x = wheel();
        x.switches(0, 0);
        due(x.begins(6), 6);
        due(x.told(4), 0);
        due(x.count(0), 6);
        for (int i = 0; i < 6; i++) {
            due(x.feeds(i, 99), 0);
        }
        // The buses that a smaller grid does not have come back without their injections.
        x.begins(2);
        due(x.begins(6), 2);
        for (int i = 0; i < 6; i++) {
            due(x.feeds(i, 99), 0);
        }
        // A new line is in service, though the one with its number was not.
        due(x.line(0, 1, 1, 1), 0);
        due(x.of(0, 4), 1);
        // The text stays.
        OutageScreen y = ring();
        y.begins(3);
        due(y.told(5), 8);
    }

    @Says(at = "Promise 2", text = "`n`: the number of buses, 2 to 6")
    private static void p02TwoToSix() {
        for (int n = 2; n <= 6; n++) {
            int count = n;
            changes(BoundaryTest::ring, 3, x -> x.begins(count));
            OutageScreen x = ring();
            x.begins(n);
            due(x.told(3), n);
        }
    }

    @Says(at = "Promise 2", text = "Returns the previous number of buses; BAD if n is out of range.")
    private static void p02OutOfRange() {
        bad(BoundaryTest::ring, x -> x.begins(1), x -> x.begins(7), x -> x.begins(0), x -> x.begins(-1),
            x -> x.begins(-2), x -> x.begins(8), x -> x.begins(LEAST), x -> x.begins(GREATEST));
        OutageScreen x = fresh();
        int before = 4;
        for (int n : new int[] {2, 6, 6, 2, 3, 5, 4}) {
            due(x.begins(n), before);
            before = n;
        }
    }

    // ---- Promise 3: feeds

    @Says(at = "Promise 3", text = "`v`: the new injection, -99 to 99")
    private static void p03Range() {
        changes(BoundaryTest::ring, 5, x -> x.feeds(1, 99), x -> x.feeds(1, -99), x -> x.feeds(1, 0));
        OutageScreen x = ring();
        x.feeds(1, -99);
        due(x.fed(1), -99);
        due(x.feeds(1, 99), -99);
        due(x.fed(1), 99);
        due(x.feeds(1, 0), 99);
        due(x.fed(1), 0);
    }

    @Says(at = "Promise 3", text = "BAD if there is no such bus or v is out of range.")
    private static void p03OutOfRange() {
        bad(BoundaryTest::ring, x -> x.feeds(1, 100), x -> x.feeds(1, -100), x -> x.feeds(1, LEAST),
            x -> x.feeds(1, GREATEST), x -> x.feeds(-1, 0), x -> x.feeds(3, 0), x -> x.feeds(6, 0),
            x -> x.feeds(LEAST, 0), x -> x.feeds(GREATEST, 0), x -> x.feeds(-1, 100));
        for (int n = 2; n <= 6; n++) {
            int count = n;
            changes(() -> buses(count), 0, x -> x.feeds(count - 1, 1));
            bad(() -> buses(count), x -> x.feeds(count, 1));
        }
    }

    @Says(at = "Promise 3", text = "Returns the previous injection")
    private static void p03Previous() {
        OutageScreen x = one(0);
        int before = 0;
        for (int v : new int[] {-1, -2, -3, -4, 99, -99, -99}) {
            due(x.feeds(1, v), before);
            before = v;
        }
        for (int what = 0; what <= 2; what++) {
            due(x.told(what), 0);
        }
        // For a slack bus it is its own one, not the one that it has.
        due(x.fed(0), 99);
        due(x.feeds(0, -2), 0);
        due(x.feeds(0, 5), -2);
        due(x.fed(0), 99);
    }

    // ---- Promise 4: line

    @Says(at = "Promise 4", text = "Adds a line, which is in service.")
    private static void p04InService() {
        OutageScreen x = chain();
        x.drops(2);
        due(x.line(0, 2, 1, 1), 2);
        due(x.of(2, 4), 1);
        OutageScreen y = chain();
        y.drops(0);
        due(y.line(0, 2, 1, 1), 2);
        due(y.of(1, 4), 0);
        due(y.of(2, 4), 1);
    }

    @Says(at = "Promise 4", text = "Returns the number of the line; BAD if an argument is not as described")
    private static void p04Arguments() {
        changes(BoundaryTest::ring, 3, x -> x.line(0, 2, 1, 1), x -> x.line(2, 0, 5, 999),
            x -> x.line(1, 0, 1, 999), x -> x.line(0, 1, 5, 1));
        bad(BoundaryTest::ring, x -> x.line(-1, 1, 1, 1), x -> x.line(3, 1, 1, 1), x -> x.line(1, -1, 1, 1),
            x -> x.line(1, 3, 1, 1), x -> x.line(0, 1, 0, 1), x -> x.line(0, 1, 6, 1), x -> x.line(0, 1, -1, 1),
            x -> x.line(0, 1, 1, 0), x -> x.line(0, 1, 1, 1000), x -> x.line(0, 1, 1, -1));
        bad(BoundaryTest::ring, x -> x.line(LEAST, 1, 1, 1), x -> x.line(GREATEST, 1, 1, 1),
            x -> x.line(0, LEAST, 1, 1), x -> x.line(0, GREATEST, 1, 1), x -> x.line(0, 1, LEAST, 1),
            x -> x.line(0, 1, GREATEST, 1), x -> x.line(0, 1, 1, LEAST), x -> x.line(0, 1, 1, GREATEST));
        for (int n = 2; n <= 6; n++) {
            int count = n;
            changes(() -> buses(count), 0, x -> x.line(0, count - 1, 1, 1), x -> x.line(count - 1, 0, 1, 1));
            bad(() -> buses(count), x -> x.line(0, count, 1, 1), x -> x.line(count, 0, 1, 1));
        }
    }

    @Says(at = "Promise 4", text = "`b`: another bus, to which it leads")
    private static void p04AnotherBus() {
        bad(BoundaryTest::ring, x -> x.line(0, 0, 1, 1), x -> x.line(1, 1, 1, 1), x -> x.line(2, 2, 1, 1),
            x -> x.line(3, 3, 1, 1));
    }

    @Says(at = "Promise 4", text = "FULL if there are 10 lines already.")
    private static void p04Full() {
        full(BoundaryTest::tenLines, x -> x.line(0, 1, 1, 1), x -> x.line(1, 0, 5, 999));
        full(BoundaryTest::wheel, x -> x.line(0, 5, 1, 1));
        OutageScreen x = tenLines();
        due(x.drops(0), 9);
        due(x.line(0, 1, 1, 1), 9);
        due(x.line(0, 1, 1, 1), FULL);
        // A line out of service is a line.
        x.switches(3, 0);
        due(x.line(0, 1, 1, 1), FULL);
        due(x.told(2), 2);
        x.begins(2);
        due(x.line(0, 1, 1, 1), 0);
    }

    // ---- Promise 5: drops

    @Says(at = "Promise 5", text = "Removes a line; the numbers of later ones decrease by 1.")
    private static void p05LaterOnes() {
        for (int gone = 0; gone < 10; gone++) {
            OutageScreen x = wheel();
            OutageScreen before = wheel();
            for (OutageScreen one : List.of(x, before)) {
                for (int l = 0; l < 10; l++) {
                    one.sets(l, 0, 1 + l % 5);
                    one.sets(l, 1, 100 + l);
                    one.switches(l, l % 3 == 1 ? 0 : 1);
                }
            }
            due(x.drops(gone), 9);
            for (int l = 0; l < 9; l++) {
                for (int what = 0; what <= 4; what++) {
                    due(x.of(l, what), before.of(l < gone ? l : l + 1, what));
                }
            }
            due(x.of(9, 0), BAD);
        }
    }

    @Says(at = "Promise 5", text = "Returns the number of lines then; BAD if there is no such line.")
    private static void p05NumberThen() {
        bad(BoundaryTest::ring, x -> x.drops(3), x -> x.drops(-1), x -> x.drops(10), x -> x.drops(LEAST),
            x -> x.drops(GREATEST));
        bad(BoundaryTest::tenLines, x -> x.drops(10));
        bad(BoundaryTest::fresh, x -> x.drops(0));
        changes(() -> one(4), 0, x -> x.drops(0));
        OutageScreen x = tenLines();
        for (int left = 9; left >= 0; left--) {
            due(x.drops(left % 2 == 0 ? 0 : left), left);
            due(x.told(4), left);
        }
        due(x.drops(0), BAD);
    }

    // ---- Promise 6: switches

    @Says(at = "Promise 6", text = "Returns 1 if it was in service before, 0 if not")
    private static void p06Before() {
        changes(() -> one(4), 1, x -> x.switches(0, 0), x -> x.switches(0, 1));
        OutageScreen x = tenLines();
        due(x.switches(9, 0), 1);
        due(x.of(9, 4), 0);
        due(x.switches(9, 0), 0);
        due(x.of(9, 4), 0);
        due(x.switches(9, 1), 0);
        due(x.of(9, 4), 1);
        due(x.switches(9, 1), 1);
        due(x.of(9, 4), 1);
        due(x.of(8, 4), 1);
    }

    @Says(at = "Promise 6", text = "BAD if there is no such line or on is out of range.")
    private static void p06OutOfRange() {
        bad(BoundaryTest::ring, x -> x.switches(3, 0), x -> x.switches(3, 1), x -> x.switches(-1, 1),
            x -> x.switches(LEAST, 0), x -> x.switches(GREATEST, 0), x -> x.switches(0, 2),
            x -> x.switches(0, -1), x -> x.switches(0, LEAST), x -> x.switches(0, GREATEST));
        bad(BoundaryTest::fresh, x -> x.switches(0, 0));
        bad(BoundaryTest::tenLines, x -> x.switches(10, 0));
    }

    // ---- Promise 7: sets

    @Says(at = "Promise 7", text = "`v`: the new value, 1 to 5 for the susceptance, 1 to 999 for the limit")
    private static void p07Values() {
        changes(BoundaryTest::ring, 2, x -> x.sets(1, 0, 1), x -> x.sets(1, 0, 5));
        changes(BoundaryTest::ring, 15, x -> x.sets(2, 1, 1), x -> x.sets(2, 1, 999), x -> x.sets(2, 1, 6));
        bad(BoundaryTest::ring, x -> x.sets(1, 0, 0), x -> x.sets(1, 0, 6), x -> x.sets(1, 0, -1),
            x -> x.sets(1, 0, 999), x -> x.sets(1, 1, 0), x -> x.sets(1, 1, 1000), x -> x.sets(1, 1, -1),
            x -> x.sets(1, 0, LEAST), x -> x.sets(1, 0, GREATEST), x -> x.sets(1, 1, LEAST),
            x -> x.sets(1, 1, GREATEST));
    }

    @Says(at = "Promise 7", text = "Returns the previous value; "
        + "BAD if there is no such line or another argument is out of range.")
    private static void p07OutOfRange() {
        bad(BoundaryTest::ring, x -> x.sets(3, 0, 1), x -> x.sets(3, 1, 1), x -> x.sets(-1, 0, 1),
            x -> x.sets(-1, 1, 1), x -> x.sets(LEAST, 0, 1), x -> x.sets(GREATEST, 1, 1), x -> x.sets(1, 2, 1),
            x -> x.sets(1, -1, 1), x -> x.sets(1, LEAST, 1), x -> x.sets(1, GREATEST, 1));
        bad(BoundaryTest::tenLines, x -> x.sets(10, 0, 1));
        OutageScreen x = ring();
        due(x.sets(1, 0, 5), 2);
        due(x.sets(1, 0, 1), 5);
        due(x.of(1, 2), 1);
        due(x.sets(1, 1, 999), 30);
        due(x.sets(1, 1, 1), 999);
        due(x.of(1, 3), 1);
        due(x.of(0, 2), 1);
        due(x.of(2, 3), 15);
        // A line out of service can be set too.
        due(chain().sets(2, 0, 4), 1);
    }

    // ---- Promise 8: of

    @Says(at = "Promise 8", text = "5 whether it is a bridge (1 or 0; 0 if it is out of service)")
    private static void p08Bridge() {
        OutageScreen x = one(0);
        due(x.of(0, 5), 1);
        x.switches(0, 0);
        due(x.of(0, 5), 0);
        // Line 2 of the parts is a bridge in service, and divides nothing when it is out already.
        OutageScreen y = parts();
        due(y.of(2, 5), 1);
        y.switches(2, 0);
        due(y.of(2, 5), 0);
        // Of a double line the one that is left is a bridge, the one that is out is none.
        y.switches(0, 0);
        due(y.of(0, 5), 0);
        due(y.of(1, 5), 1);
    }

    @Says(at = "Promise 8", text = "Returns the property; BAD if there is no such line or what is out of range.")
    private static void p08OutOfRange() {
        bad(BoundaryTest::ring, x -> x.of(0, 6), x -> x.of(0, -1), x -> x.of(3, 0), x -> x.of(-1, 0),
            x -> x.of(0, LEAST), x -> x.of(0, GREATEST), x -> x.of(LEAST, 0), x -> x.of(GREATEST, 5));
        bad(BoundaryTest::tenLines, x -> x.of(10, 0));
        int[] due = {0, 2, 1, 15, 1, 0};
        for (int what = 0; what <= 5; what++) {
            int asked = what;
            asks(BoundaryTest::ring, due[what], x -> x.of(2, asked));
        }
    }

    // ---- Promise 9: flow

    @Says(at = "Promise 9", text = "Returns the number; BAD if there is no such line or what is out of range.")
    private static void p09OutOfRange() {
        bad(BoundaryTest::ring, x -> x.flow(3, 0), x -> x.flow(-1, 1), x -> x.flow(0, 2), x -> x.flow(0, -1),
            x -> x.flow(LEAST, 0), x -> x.flow(GREATEST, 0), x -> x.flow(0, LEAST), x -> x.flow(0, GREATEST));
        bad(BoundaryTest::fresh, x -> x.flow(0, 0));
        bad(BoundaryTest::tenLines, x -> x.flow(10, 0));
        asks(BoundaryTest::ring, -3, x -> x.flow(0, 0));
        asks(BoundaryTest::ring, -2, x -> x.flow(2, 0));
        asks(BoundaryTest::ring, 1, x -> x.flow(0, 1), x -> x.flow(2, 1));
        asks(BoundaryTest::tenLines, -15, x -> x.flow(9, 0));
    }

    @Says(at = "Promise 9", text = "Returns the flow of a line, a fraction.")
    private static void p09AtTheEnds() {
        // The greatest flow: five buses feed 99 over one line.
        OutageScreen x = buses(6);
        x.line(0, 1, 1, 1);
        for (int i = 1; i < 6; i++) {
            x.feeds(i, 99);
            if (i > 1) {
                x.line(1, i, 5, 1);
            }
        }
        fraction(x.flow(0, 0), x.flow(0, 1), -495, 1);
        x.feeds(0, 99);
        fraction(x.flow(0, 0), x.flow(0, 1), -495, 1);
        asks(BoundaryTest::chain, 0, y -> y.flow(2, 0), y -> y.flow(1, 0));
        asks(BoundaryTest::chain, 1, y -> y.flow(2, 1), y -> y.flow(1, 1));
    }

    // ---- Promise 10: angle

    @Says(at = "Promise 10", text = "Returns the number; BAD if there is no such bus or what is out of range.")
    private static void p10OutOfRange() {
        bad(BoundaryTest::ring, x -> x.angle(3, 0), x -> x.angle(-1, 1), x -> x.angle(0, 2),
            x -> x.angle(0, -1), x -> x.angle(LEAST, 0), x -> x.angle(GREATEST, 0), x -> x.angle(0, LEAST),
            x -> x.angle(0, GREATEST));
        bad(() -> buses(6), x -> x.angle(6, 0));
        asks(BoundaryTest::ring, 0, x -> x.angle(0, 0));
        asks(BoundaryTest::ring, 1, x -> x.angle(0, 1), x -> x.angle(2, 1));
        asks(BoundaryTest::ring, 3, x -> x.angle(1, 0));
        asks(BoundaryTest::ring, 2, x -> x.angle(2, 0));
        // A bus alone has the angle 0, whatever it feeds.
        OutageScreen x = fresh();
        x.feeds(3, 99);
        fraction(x.angle(3, 0), x.angle(3, 1), 0, 1);
    }

    // ---- Promise 11: factor

    @Says(at = "Promise 11", text = "Returns the factor of a line for a bus, a fraction, "
        + "which is 0 if the line is out of service.")
    private static void p11OutOfService() {
        for (int i = 0; i < 3; i++) {
            int bus = i;
            asks(BoundaryTest::chain, 0, x -> x.factor(2, bus, 0));
            asks(BoundaryTest::chain, 1, x -> x.factor(2, bus, 1));
        }
        asks(BoundaryTest::ring, -3, x -> x.factor(2, 2, 0));
        asks(BoundaryTest::ring, 5, x -> x.factor(2, 2, 1));
    }

    @Says(at = "Promise 11", text = "Returns the number; "
        + "BAD if there is no such line or bus or what is out of range.")
    private static void p11OutOfRange() {
        bad(BoundaryTest::ring, x -> x.factor(3, 0, 0), x -> x.factor(-1, 0, 0), x -> x.factor(0, 3, 0),
            x -> x.factor(0, -1, 0), x -> x.factor(0, 0, 2), x -> x.factor(0, 0, -1),
            x -> x.factor(LEAST, 0, 0), x -> x.factor(GREATEST, 0, 0), x -> x.factor(0, LEAST, 0),
            x -> x.factor(0, GREATEST, 0), x -> x.factor(0, 0, LEAST), x -> x.factor(0, 0, GREATEST));
        bad(BoundaryTest::tenLines, x -> x.factor(10, 0, 0), x -> x.factor(0, 2, 0));
        asks(BoundaryTest::tenLines, -1, x -> x.factor(9, 1, 0));
        asks(BoundaryTest::tenLines, 6, x -> x.factor(9, 1, 1));
    }

    // ---- Promise 12: island

    @Says(at = "Promise 12", text = "Returns the slack bus; BAD if there is no such bus.")
    private static void p12OutOfRange() {
        bad(BoundaryTest::ring, x -> x.island(3), x -> x.island(-1), x -> x.island(LEAST),
            x -> x.island(GREATEST));
        bad(() -> buses(6), x -> x.island(6));
        asks(BoundaryTest::ring, 0, x -> x.island(0), x -> x.island(1), x -> x.island(2));
        asks(BoundaryTest::parts, 5, x -> x.island(5));
        asks(BoundaryTest::parts, 3, x -> x.island(3), x -> x.island(4));
        // A bus that begins() took away is none, though its line was there.
        OutageScreen x = wheel();
        x.begins(5);
        due(x.island(5), BAD);
        due(x.island(4), 4);
    }

    // ---- Promise 13: trees

    @Says(at = "Promise 13", text = "Returns the weight; BAD if there is no such bus.")
    private static void p13OutOfRange() {
        bad(BoundaryTest::ring, x -> x.trees(3), x -> x.trees(-1), x -> x.trees(LEAST), x -> x.trees(GREATEST));
        bad(() -> buses(6), x -> x.trees(6));
        asks(BoundaryTest::ring, 5, x -> x.trees(0), x -> x.trees(2));
        asks(BoundaryTest::chain, 2, x -> x.trees(0), x -> x.trees(2));
        asks(BoundaryTest::wheel, 121 * 3125, x -> x.trees(0), x -> x.trees(5));
        asks(BoundaryTest::tenLines, 30, x -> x.trees(0), x -> x.trees(1));
        // The other islands do not matter.
        asks(BoundaryTest::parts, 8, x -> x.trees(0), x -> x.trees(1), x -> x.trees(2));
        asks(BoundaryTest::parts, 5, x -> x.trees(3), x -> x.trees(4));
        OutageScreen x = parts();
        x.sets(0, 0, 5);
        due(x.trees(0), 16);
        due(x.trees(4), 5);
        due(x.trees(5), 1);
    }

    // ---- Promise 14: fed

    @Says(at = "Promise 14", text = "Returns the injection; -99999 (in place of BAD) if there is no such bus.")
    private static void p14OutOfRange() {
        refuses(BoundaryTest::ring, -99999, BAD, x -> x.fed(3), x -> x.fed(-1), x -> x.fed(LEAST),
            x -> x.fed(GREATEST));
        refuses(() -> buses(6), -99999, BAD, x -> x.fed(6));
        asks(BoundaryTest::ring, -5, x -> x.fed(0));
        asks(BoundaryTest::ring, 5, x -> x.fed(1));
        asks(BoundaryTest::ring, 0, x -> x.fed(2));
        // A true injection of -2 is no error.
        asks(() -> one(-2), -2, x -> x.fed(1));
        asks(() -> one(2), -2, x -> x.fed(0));
    }

    @Says(at = "Promise 14", text = "its own one, or, for a slack bus, the one that makes the sum of its island 0.")
    private static void p14SingleBus() {
        OutageScreen x = fresh();
        for (int i = 0; i < 4; i++) {
            x.feeds(i, 99);
            due(x.fed(i), 0);
        }
        OutageScreen y = parts();
        due(y.fed(3), 0);
        y.feeds(4, 7);
        due(y.fed(3), -7);
        y.switches(3, 0);
        due(y.fed(3), 0);
        due(y.fed(4), 0);
    }

    // ---- Promise 15: outage

    @Says(at = "Promise 15", text = "`k`: the line that is out of service then, possibly the same")
    private static void p15TheSameLine() {
        for (int l = 0; l < 3; l++) {
            int same = l;
            asks(BoundaryTest::ring, 0, x -> x.outage(same, same, 0));
            asks(BoundaryTest::ring, 1, x -> x.outage(same, same, 1));
        }
        asks(() -> one(99), 0, x -> x.outage(0, 0, 0));
        // The line itself may be out of service.
        asks(BoundaryTest::chain, 0, x -> x.outage(2, 0, 0));
        asks(BoundaryTest::chain, 1, x -> x.outage(2, 0, 1));
        // A bridge may be k: behind it bus 1 becomes the slack bus.
        OutageScreen y = chain();
        y.feeds(2, -7);
        fraction(y.outage(1, 0, 0), y.outage(1, 0, 1), 7, 1);
        asks(BoundaryTest::ring, -5, x -> x.outage(0, 2, 0), x -> x.outage(0, 1, 0));
    }

    @Says(at = "Promise 15", text = "BAD if there is no such line or what is out of range; "
        + "NO if k is out of service already.")
    private static void p15Refused() {
        bad(BoundaryTest::ring, x -> x.outage(3, 0, 0), x -> x.outage(-1, 0, 0), x -> x.outage(0, 3, 0),
            x -> x.outage(0, -1, 0), x -> x.outage(0, 1, 2), x -> x.outage(0, 1, -1),
            x -> x.outage(LEAST, 0, 0), x -> x.outage(GREATEST, 0, 0), x -> x.outage(0, LEAST, 0),
            x -> x.outage(0, GREATEST, 0), x -> x.outage(0, 1, LEAST), x -> x.outage(0, 1, GREATEST));
        bad(BoundaryTest::tenLines, x -> x.outage(10, 0, 0), x -> x.outage(0, 10, 0));
        no(BoundaryTest::chain, x -> x.outage(0, 2, 0), x -> x.outage(2, 2, 0), x -> x.outage(1, 2, 1));
    }

    // ---- Promise 16: spread

    @Says(at = "Promise 16", text = "`k`: the line that is out of service then, possibly the same")
    private static void p16TheSameLine() {
        for (int l = 0; l < 3; l++) {
            int same = l;
            asks(BoundaryTest::ring, 0, x -> x.spread(same, same, 0));
            asks(BoundaryTest::ring, 1, x -> x.spread(same, same, 1));
        }
        // For a bridge, or a line out of service, the same line is refused too.
        no(BoundaryTest::chain, x -> x.spread(0, 0, 0), x -> x.spread(2, 2, 0));
    }

    @Says(at = "Promise 16", text = "NO if k is out of service already or is a bridge.")
    private static void p16Refused() {
        no(BoundaryTest::chain, x -> x.spread(0, 2, 0), x -> x.spread(1, 2, 1), x -> x.spread(1, 0, 0),
            x -> x.spread(0, 1, 1), x -> x.spread(2, 0, 0));
        no(BoundaryTest::parts, x -> x.spread(0, 2, 0), x -> x.spread(0, 3, 0));
        // No bridge: in the ring each outage sends everything the other way.
        asks(BoundaryTest::ring, 1, x -> x.spread(0, 2, 0), x -> x.spread(0, 2, 1), x -> x.spread(2, 0, 0));
        asks(BoundaryTest::ring, -1, x -> x.spread(1, 0, 0), x -> x.spread(0, 1, 0));
        asks(BoundaryTest::tenLines, 5, x -> x.spread(9, 0, 0));
        asks(BoundaryTest::tenLines, 29, x -> x.spread(9, 0, 1));
    }

    @Says(at = "Promise 16", text = "Returns the number; BAD if there is no such line or what is out of range")
    private static void p16OutOfRange() {
        bad(BoundaryTest::ring, x -> x.spread(3, 0, 0), x -> x.spread(-1, 0, 0), x -> x.spread(0, 3, 0),
            x -> x.spread(0, -1, 0), x -> x.spread(0, 1, 2), x -> x.spread(0, 1, -1),
            x -> x.spread(LEAST, 0, 0), x -> x.spread(GREATEST, 0, 0), x -> x.spread(0, LEAST, 0),
            x -> x.spread(0, GREATEST, 0), x -> x.spread(0, 1, LEAST), x -> x.spread(0, 1, GREATEST),
            x -> x.spread(1, 1, 2));
        bad(BoundaryTest::tenLines, x -> x.spread(10, 0, 0), x -> x.spread(0, 10, 0));
    }

    // ---- Promise 17: worst

    @Says(at = "Promise 17", text = "0 the worst line (NONE if there is none)")
    private static void p17WorstLine() {
        asks(BoundaryTest::fresh, NONE, x -> x.worst(NONE, 0));
        asks(() -> one(1), NONE, x -> x.worst(0, 0));
        asks(() -> one(1), 0, x -> x.worst(NONE, 0));
        // A line in service that carries nothing is a worst line all the same.
        asks(() -> one(0), 0, x -> x.worst(NONE, 0), x -> x.worst(NONE, 1), x -> x.worst(NONE, 3));
        asks(() -> one(0), 1, x -> x.worst(NONE, 2));
        // 3/30, 2/30 and 2/15.
        asks(BoundaryTest::ring, 2, x -> x.worst(NONE, 0), x -> x.worst(NONE, 1));
        asks(BoundaryTest::ring, 15, x -> x.worst(NONE, 2));
        asks(BoundaryTest::ring, 0, x -> x.worst(2, 0));
    }

    @Says(at = "Promise 17", text = "3 the number of lines that are overloaded")
    private static void p17Overloaded() {
        OutageScreen x = tenLines();
        for (int l = 0; l < 10; l++) {
            x.sets(l, 1, 3 * (1 + l / 2));
        }
        due(x.worst(NONE, 3), 0);
        // After an outage all that are left carry more than they may.
        due(x.worst(9, 3), 9);
        x.feeds(1, 91);
        due(x.worst(NONE, 3), 10);
        x.feeds(1, -90);
        due(x.worst(NONE, 3), 0);
        x.feeds(1, -91);
        due(x.worst(NONE, 3), 10);
    }

    @Says(at = "Promise 17", text = "BAD if k is neither NONE nor a line, or what is out of range; "
        + "NO if k is out of service already.")
    private static void p17Refused() {
        bad(BoundaryTest::ring, x -> x.worst(3, 0), x -> x.worst(-2, 0), x -> x.worst(LEAST, 0),
            x -> x.worst(GREATEST, 0), x -> x.worst(0, 4), x -> x.worst(0, -1), x -> x.worst(NONE, 4),
            x -> x.worst(NONE, -1), x -> x.worst(NONE, LEAST), x -> x.worst(NONE, GREATEST));
        bad(BoundaryTest::fresh, x -> x.worst(0, 0));
        bad(BoundaryTest::tenLines, x -> x.worst(10, 0));
        no(BoundaryTest::chain, x -> x.worst(2, 0), x -> x.worst(2, 1), x -> x.worst(2, 2), x -> x.worst(2, 3));
    }

    // ---- Promise 18: ranked

    @Says(at = "Promise 18", text = "Returns the line; NONE if there are not so many; BAD if i is negative.")
    private static void p18Positions() {
        bad(BoundaryTest::ring, x -> x.ranked(-1), x -> x.ranked(-2), x -> x.ranked(LEAST));
        asks(BoundaryTest::ring, NONE, x -> x.ranked(3), x -> x.ranked(10), x -> x.ranked(GREATEST));
        asks(BoundaryTest::fresh, NONE, x -> x.ranked(0));
        asks(BoundaryTest::tenLines, 8, x -> x.ranked(0));
        asks(BoundaryTest::tenLines, 1, x -> x.ranked(9));
        asks(BoundaryTest::tenLines, NONE, x -> x.ranked(10));
        asks(() -> one(99), 0, x -> x.ranked(0));
        asks(() -> one(99), NONE, x -> x.ranked(1));
    }

    @Says(at = "Promise 18", text = "all lines in service, by the worst loadings after their outages, "
        + "the greatest first, and lines with the same one by their numbers.")
    private static void p18EqualOnes() {
        // Nothing flows: all ten are equal.
        OutageScreen x = tenLines();
        x.feeds(1, 0);
        for (int i = 0; i < 10; i++) {
            due(x.ranked(i), i);
        }
        x.switches(0, 0);
        x.switches(5, 0);
        int[] left = {1, 2, 3, 4, 6, 7, 8, 9};
        for (int i = 0; i < 8; i++) {
            due(x.ranked(i), left[i]);
        }
        due(x.ranked(8), NONE);
        // After the outages of the ring the worst loadings are 1/3, 1/6 and 1/6.
        OutageScreen y = ring();
        due(y.ranked(0), 0);
        due(y.ranked(1), 1);
        due(y.ranked(2), 2);
        // With bus 2 in place of bus 1, 5 flow over line 2 without 0 or 1, over 0 and 1 without 2: 1/3, 1/3, 1/6.
        y.feeds(1, 0);
        y.feeds(2, 5);
        due(y.ranked(0), 0);
        due(y.ranked(1), 1);
        due(y.ranked(2), 2);
        y.sets(0, 1, 10);
        // Now they are 1/3, 1/3 and 1/2.
        due(y.ranked(0), 2);
        due(y.ranked(1), 0);
        due(y.ranked(2), 1);
    }

    // ---- Promise 19: pair

    @Says(at = "Promise 19", text = "Returns the value; NONE if there are not so many pairs; "
        + "BAD if i is negative or what is out of range.")
    private static void p19Positions() {
        bad(BoundaryTest::ring, x -> x.pair(-1, 0), x -> x.pair(LEAST, 0), x -> x.pair(0, 4), x -> x.pair(0, -1),
            x -> x.pair(0, LEAST), x -> x.pair(0, GREATEST), x -> x.pair(3, 4), x -> x.pair(-1, 4));
        for (int what = 0; what <= 3; what++) {
            int asked = what;
            asks(BoundaryTest::fresh, NONE, x -> x.pair(0, asked));
            asks(() -> one(9), NONE, x -> x.pair(0, asked));
            asks(BoundaryTest::two, NONE, x -> x.pair(1, asked));
            asks(BoundaryTest::ring, NONE, x -> x.pair(3, asked), x -> x.pair(GREATEST, asked));
            asks(BoundaryTest::tenLines, NONE, x -> x.pair(45, asked));
        }
        // Without 6 and 8 the others share 90 by their susceptances, of 21 in all: 9 carries 450/21 of 9.
        // So it is without 6 and 9, 7 and 8, 7 and 9; without 8 and 9 no line is so strong, and it is 18 of 9.
        asks(BoundaryTest::tenLines, 6, x -> x.pair(0, 0));
        asks(BoundaryTest::tenLines, 8, x -> x.pair(0, 1));
        asks(BoundaryTest::tenLines, 50, x -> x.pair(0, 2));
        asks(BoundaryTest::tenLines, 21, x -> x.pair(0, 3));
        // Without 0 and 1 the others have 28: 5 carries 450/28 of 9.
        asks(BoundaryTest::tenLines, 0, x -> x.pair(44, 0));
        asks(BoundaryTest::tenLines, 1, x -> x.pair(44, 1));
        asks(BoundaryTest::tenLines, 25, x -> x.pair(44, 2));
        asks(BoundaryTest::tenLines, 14, x -> x.pair(44, 3));
    }

    @Says(at = "Promise 19", text = "with j less than k, by the worst loadings after their double outages, "
        + "the greatest first, and pairs with the same one by j, then by k.")
    private static void p19EqualOnes() {
        OutageScreen x = tenLines();
        x.feeds(1, 0);
        int at = 0;
        for (int j = 0; j < 10; j++) {
            for (int k = j + 1; k < 10; k++) {
                due(x.pair(at, 0), j);
                due(x.pair(at, 1), k);
                fraction(x.pair(at, 2), x.pair(at, 3), 0, 1);
                at++;
            }
        }
        due(x.pair(at, 0), NONE);
        // Bus 1 feeds 5 and bus 2 takes 5. Without 0 and 1 line 2 carries 5 of 15, without 0 and 2 line 1
        // carries 5 of 30, without 1 and 2 line 0 does.
        OutageScreen y = ring();
        y.feeds(2, -5);
        long[][] due = {{0, 1, 1, 3}, {0, 2, 1, 6}, {1, 2, 1, 6}};
        for (int i = 0; i < 3; i++) {
            for (int what = 0; what <= 3; what++) {
                due(y.pair(i, what), due[i][what]);
            }
        }
        // With the limit 10 for line 0 they are 1/3, 1/6 and 1/2.
        y.sets(0, 1, 10);
        long[][] then = {{1, 2, 1, 2}, {0, 1, 1, 3}, {0, 2, 1, 6}};
        for (int i = 0; i < 3; i++) {
            for (int what = 0; what <= 3; what++) {
                due(y.pair(i, what), then[i][what]);
            }
        }
        // With 15 for line 0 and 30 for line 2 the pair (0, 1) equals (0, 2), and (1, 2) is greater.
        y.sets(0, 1, 15);
        y.sets(2, 1, 30);
        long[][] last = {{1, 2, 1, 3}, {0, 1, 1, 6}, {0, 2, 1, 6}};
        for (int i = 0; i < 3; i++) {
            for (int what = 0; what <= 3; what++) {
                due(y.pair(i, what), last[i][what]);
            }
        }
    }

    // ---- Promise 20: shift

    @Says(at = "Promise 20", text = "namely of the one whose lowest bus has the higher number.")
    private static void p20HigherLowestBus() {
        OutageScreen x = buses(6);
        x.line(3, 0, 1, 9);
        x.line(2, 1, 1, 9);
        x.line(2, 3, 1, 9);
        int[] own = {50, 20, 3, 40, 90, 80};
        for (int i = 0; i < 6; i++) {
            x.feeds(i, own[i]);
        }
        // {0, 3} and {1, 2}: the bus 3 is the highest, but 0 is lower than 1.
        due(x.shift(2), 23);
        due(x.shift(0), 63);
        due(x.shift(1), 20);
        x.line(4, 5, 1, 9);
        // The own injections count, also that of a slack bus.
        due(x.shift(3), 80);
    }

    @Says(at = "Promise 20", text = "the sum of the own injections of all buses of one of the two islands")
    private static void p20Extremes() {
        for (int v : new int[] {99, -99}) {
            OutageScreen x = buses(6);
            for (int i = 0; i < 6; i++) {
                x.feeds(i, v);
                if (i > 0) {
                    x.line(i - 1, i, 1, 1);
                }
            }
            for (int k = 0; k < 5; k++) {
                due(x.shift(k), (5 - k) * v);
            }
        }
        // Sums that look like errors are none.
        for (int v = -4; v <= -1; v++) {
            int fed = v;
            asks(() -> one(fed), fed, x -> x.shift(0));
        }
    }

    @Says(at = "Promise 20", text = "-9999 (in place of BAD) if there is no such line; "
        + "-9998 (in place of NO) if it is not a bridge, or is out of service.")
    private static void p20Refused() {
        refuses(BoundaryTest::ring, -9999, BAD, x -> x.shift(3), x -> x.shift(-1), x -> x.shift(LEAST),
            x -> x.shift(GREATEST));
        refuses(BoundaryTest::fresh, -9999, BAD, x -> x.shift(0));
        refuses(BoundaryTest::tenLines, -9999, BAD, x -> x.shift(10));
        refuses(BoundaryTest::ring, -9998, NO, x -> x.shift(0), x -> x.shift(1), x -> x.shift(2));
        refuses(BoundaryTest::tenLines, -9998, NO, x -> x.shift(9));
        refuses(BoundaryTest::chain, -9998, NO, x -> x.shift(2));
        // Out of service, a line that would be a bridge.
        refuses(() -> {
            OutageScreen x = one(5);
            x.switches(0, 0);
            return x;
        }, -9998, NO, x -> x.shift(0));
    }

    // ---- Promise 21: transfer

    // Ten lines from bus 0 to bus 1, of the greatest limit: they carry 9990 together.
    private static OutageScreen wide(int fed) {
        OutageScreen x = buses(2);
        for (int l = 0; l < 10; l++) {
            x.line(0, 1, 5, 999);
        }
        x.feeds(1, fed);
        return x;
    }

    @Says(at = "Promise 21", text = "Returns the greatest integer t from 0 to 9999 "
        + "such that no line is overloaded")
    private static void p21ZeroTo9999() {
        asks(() -> wide(0), 9990, x -> x.transfer(0, 1, 0), x -> x.transfer(1, 0, 0));
        asks(() -> wide(8), 9998, x -> x.transfer(0, 1, 0));
        asks(() -> wide(9), 9999, x -> x.transfer(0, 1, 0));
        asks(() -> wide(10), 9999, x -> x.transfer(0, 1, 0));
        asks(() -> wide(99), 9999, x -> x.transfer(0, 1, 0));
        asks(() -> wide(99), 9891, x -> x.transfer(1, 0, 0));
        // A limit that is reached is not exceeded: 0 is left, and then 1.
        asks(() -> one(10), 0, x -> x.transfer(1, 0, 0));
        asks(() -> one(9), 1, x -> x.transfer(1, 0, 0));
        asks(() -> one(-10), 0, x -> x.transfer(0, 1, 0));
        asks(() -> one(-10), 20, x -> x.transfer(1, 0, 0));
        // The integer below 75/2, where line 2 reaches its 15 by 2t/5; 5 of them are taken at first.
        OutageScreen x = ring();
        due(x.transfer(1, 0, 0), 32);
        x.feeds(1, 0);
        due(x.transfer(1, 0, 0), 37);
        // A line that the transfer does not touch sets no bound.
        asks(BoundaryTest::parts, 100, y -> y.transfer(3, 4, 0));
    }

    @Says(at = "Promise 21", text = "Injections can leave the range from -99 to 99 by that; "
        + "if one of both is a slack bus, its injection results from the others as always.")
    private static void p21SlackBus() {
        Make star = () -> {
            OutageScreen x = buses(3);
            x.line(1, 0, 1, 600);
            x.line(2, 0, 1, 500);
            x.feeds(0, -99);
            x.feeds(1, 99);
            x.feeds(2, -99);
            return x;
        };
        // To the slack bus only line 1 or line 2 carries more, between the others both do.
        asks(star, 501, x -> x.transfer(1, 0, 0));
        asks(star, 599, x -> x.transfer(2, 0, 0));
        asks(star, 699, x -> x.transfer(0, 1, 0));
        asks(star, 401, x -> x.transfer(0, 2, 0), x -> x.transfer(1, 2, 0));
        asks(star, 599, x -> x.transfer(2, 1, 0));
    }

    @Says(at = "Promise 21", text = "1 if, with these injections, no line may be overloaded after the outage of "
        + "any line that is in service and is not a bridge, either")
    private static void p21Secure() {
        // Without line 0 all goes over line 2 with its 15, of which 5 are taken.
        asks(BoundaryTest::ring, 10, x -> x.transfer(1, 0, 1));
        asks(BoundaryTest::ring, 32, x -> x.transfer(1, 0, 0));
        asks(BoundaryTest::ring, 20, x -> x.transfer(0, 1, 1));
        // There are only bridges: the present state alone matters, and it does matter.
        asks(BoundaryTest::chain, 25, x -> x.transfer(1, 0, 0), x -> x.transfer(1, 0, 1));
        asks(() -> one(10), 0, x -> x.transfer(1, 0, 1));
        asks(() -> one(11), NONE, x -> x.transfer(1, 0, 1), x -> x.transfer(0, 1, 1));
        // The outage of a bridge would leave line 0 with 50 of 10.
        OutageScreen x = fresh();
        x.line(0, 1, 1, 10);
        x.line(1, 2, 1, 60);
        x.feeds(1, -50);
        x.feeds(2, 50);
        due(x.worst(1, 3), 1);
        due(x.transfer(0, 1, 1), 10);
        // A line out of service does not help.
        asks(() -> wide(0), 8991, y -> y.transfer(0, 1, 1));
        OutageScreen z = wide(0);
        z.switches(9, 0);
        due(z.transfer(0, 1, 0), 8991);
        due(z.transfer(0, 1, 1), 7992);
    }

    @Says(at = "Promise 21", text = "Returns t; NONE if the condition is not fulfilled for t = 0")
    private static void p21None() {
        asks(() -> one(11), NONE, x -> x.transfer(1, 0, 0));
        // Also if a greater t would make it better.
        asks(() -> one(11), NONE, x -> x.transfer(0, 1, 0));
        asks(() -> one(10), 20, x -> x.transfer(0, 1, 0));
        // Only after an outage: 16 of 15 on line 2, without line 0.
        Make tight = () -> {
            OutageScreen x = ring();
            x.feeds(1, 16);
            return x;
        };
        asks(tight, 21, x -> x.transfer(1, 0, 0));
        asks(tight, NONE, x -> x.transfer(1, 0, 1), x -> x.transfer(0, 1, 1));
        // No line, also none of another island, may be overloaded.
        OutageScreen y = parts();
        y.feeds(4, 99);
        y.sets(3, 1, 98);
        due(y.transfer(0, 1, 0), NONE);
        y.sets(3, 1, 99);
        due(y.transfer(0, 1, 0), 133);
    }

    @Says(at = "Promise 21", text = "BAD if there is no such bus, both are the same, or secure is out of range; "
        + "NO if both are in different islands.")
    private static void p21Refused() {
        bad(BoundaryTest::ring, x -> x.transfer(3, 0, 0), x -> x.transfer(0, 3, 0), x -> x.transfer(-1, 0, 0),
            x -> x.transfer(0, -1, 0), x -> x.transfer(LEAST, 0, 0), x -> x.transfer(0, GREATEST, 0),
            x -> x.transfer(0, 0, 0), x -> x.transfer(2, 2, 1), x -> x.transfer(3, 3, 0),
            x -> x.transfer(0, 1, 2), x -> x.transfer(0, 1, -1), x -> x.transfer(0, 1, LEAST),
            x -> x.transfer(0, 1, GREATEST));
        bad(() -> buses(6), x -> x.transfer(6, 0, 0), x -> x.transfer(5, 5, 0));
        no(BoundaryTest::parts, x -> x.transfer(0, 3, 0), x -> x.transfer(4, 2, 1), x -> x.transfer(5, 0, 0),
            x -> x.transfer(0, 5, 1));
        no(BoundaryTest::fresh, x -> x.transfer(0, 1, 0), x -> x.transfer(3, 0, 1));
        no(() -> {
            OutageScreen x = one(0);
            x.switches(0, 0);
            return x;
        }, x -> x.transfer(0, 1, 0));
    }

    // ---- Promise 22: count

    private static void counts(Make make, int... due) {
        for (int what = 0; what < due.length; what++) {
            int asked = what;
            asks(make, due[what], x -> x.count(asked));
        }
    }

    @Says(at = "Promise 22", text = "0 islands, 1 lines, 2 lines in service, 3 bridges, 4 overloaded lines, "
        + "5 lines in service after whose outage some line is overloaded, "
        + "6 pairs of lines in service after whose double outage some line is overloaded")
    private static void p22EmptyAndFull() {
        counts(BoundaryTest::fresh, 4, 0, 0, 0, 0, 0, 0);
        counts(() -> buses(6), 6, 0, 0, 0, 0, 0, 0);
        counts(() -> one(10), 1, 1, 1, 1, 0, 0, 0);
        counts(() -> one(11), 1, 1, 1, 1, 1, 0, 0);
        // Lines 6 and 7 carry 12 of 9, lines 8 and 9 carry 15.
        counts(BoundaryTest::tenLines, 1, 10, 10, 0, 4, 10, 45);
        counts(BoundaryTest::chain, 1, 3, 2, 2, 0, 0, 0);
        counts(BoundaryTest::parts, 3, 4, 4, 2, 0, 0, 0);
        OutageScreen x = tenLines();
        for (int l = 0; l < 10; l++) {
            x.switches(l, 0);
        }
        int[] dark = {2, 10, 0, 0, 0, 0, 0};
        for (int what = 0; what <= 6; what++) {
            due(x.count(what), dark[what]);
        }
    }

    @Says(at = "Promise 22", text = "5 lines in service after whose outage some line is overloaded")
    private static void p22JustOverloaded() {
        // Without line 0 line 2 carries all: 15 of 15, then 16.
        for (int fed = 15; fed <= 16; fed++) {
            OutageScreen x = ring();
            x.feeds(1, fed);
            due(x.count(4), 0);
            due(x.count(5), fed - 15);
        }
        // Without two of three lines the third one carries all: 10 of 10, then 11.
        for (int fed = 10; fed <= 11; fed++) {
            OutageScreen x = one(fed);
            x.line(0, 1, 3, 10);
            x.line(0, 1, 3, 10);
            due(x.count(5), 0);
            due(x.count(6), fed == 11 ? 3 : 0);
        }
    }

    @Says(at = "Promise 22", text = "Returns the count; BAD if what is out of range.")
    private static void p22OutOfRange() {
        bad(BoundaryTest::ring, x -> x.count(7), x -> x.count(-1), x -> x.count(LEAST), x -> x.count(GREATEST));
        counts(BoundaryTest::ring, 1, 3, 3, 0, 0, 0, 0);
    }

    // ---- Promise 23: type

    @Says(at = "Promise 23", text = "`c`: the byte, 0 to 127")
    private static void p23Bytes() {
        OutageScreen x = fresh();
        due(x.type(0), 1);
        due(x.type(127), 2);
        due(x.type(32), 3);
        due(x.told(0), 0);
        due(x.told(6), 0);
        due(x.does(), -10);
        bad(BoundaryTest::ring, y -> y.type(128), y -> y.type(-1), y -> y.type(255), y -> y.type(256 + ' '),
            y -> y.type(LEAST), y -> y.type(GREATEST));
    }

    @Says(at = "Promise 23", text = "Returns the new length of the text; BAD if c is out of range; "
        + "FULL if the text has 120 bytes already.")
    private static void p23Full() {
        OutageScreen x = fresh();
        for (int length = 1; length <= 120; length++) {
            due(x.type(' '), length);
            due(x.told(5), length);
        }
        due(x.type(' '), FULL);
        full(BoundaryTest::fullText, y -> y.type(' '), y -> y.type(0), y -> y.type(127));
        bad(BoundaryTest::fullText, y -> y.type(128));
        due(x.clear(), 120);
        due(x.type('x'), 1);
    }

    // ---- Promise 24: clear

    @Says(at = "Promise 24", text = "Returns the length that it had.")
    private static void p24Length() {
        due(fresh().clear(), 0);
        OutageScreen x = fullText();
        due(x.clear(), 120);
        due(x.clear(), 0);
        due(x.told(5), 0);
        due(x.does(), -10);
        due(x.type('b'), 1);
        due(x.clear(), 1);
        // The grid, the kept states and the counts stay.
        OutageScreen y = ring();
        OutageScreen twin = ring();
        due(y.clear(), 8);
        due(y.told(6), 6);
        counted(y, twin, 0);
        write(y, "bus 2 7;");
        same(y, twin);
    }

    // ---- Promise 25: does

    @Says(at = "Promise 25", text = "Executes the commands of the text, one after the other.")
    private static void p25OneAfterTheOther() {
        OutageScreen x = ring();
        due(does(x, "open 0;close 0;"), 2);
        due(x.of(0, 4), 1);
        due(does(x, "close 0;open 0;"), 2);
        due(x.of(0, 4), 0);
        due(does(x, "begin 2;line 0 1 1 1;drop 0;"), 3);
        due(x.told(4), 0);
        due(does(x, "bus 1 5;begin 6;bus 5 5;"), 3);
        due(x.feeds(1, 0), 0);
        due(x.feeds(5, 0), 5);
        // The first drop lets the numbers of the others decrease.
        OutageScreen y = tenLines();
        due(does(y, "drop 9;drop 9;drop 8;drop 8;"), 2);
        due(y.told(4), 8);
    }

    @Says(at = "Promise 25", text = "A command whose call would return an error is skipped, "
        + "and its error is not counted.")
    private static void p25Skipped() {
        for (String text : new String[] {"bus 3 0;", "bus 0 100;", "bus 0 -100;", "bus 999 0;", "bus 0 999;",
            "line 0 0 1 1;", "line 3 0 1 1;", "line 0 3 1 1;", "line 0 1 0 1;", "line 0 1 6 1;", "line 0 1 1 0;",
            "open 3;", "close 3;", "open 999;", "limit 3 1;", "limit 0 0;", "strength 3 1;", "strength 0 0;",
            "strength 0 6;", "drop 3;", "drop 999;", "begin 1;", "begin 7;", "begin 0;", "begin 999;"}) {
            changes(ringWith(text), 0, OutageScreen::does);
            OutageScreen x = ringWith(text).made();
            OutageScreen twin = ringWith(text).made();
            x.does();
            twin.feeds(1, 5);
            same(x, twin);
        }
        // FULL is an error too: of three lines only the first finds room.
        OutageScreen x = tenLines();
        x.drops(0);
        due(does(x, "line 0 1 1 7;line 0 1 1 8;line 0 1 1 9;"), 1);
        due(x.of(9, 3), 7);
        due(x.told(2), 0);
        // A command after a skipped one is executed.
        due(does(x, "open 10;open 9;"), 1);
        due(x.of(9, 4), 0);
        due(x.told(0), 0);
    }

    @Says(at = "Promise 25", text = "The text stays. All commands together are one change for back().")
    private static void p25OneChange() {
        changes(ringWith("begin 6;bus 5 9;line 5 4 3 2;open 0;"), 4, OutageScreen::does);
        changes(ringWith("open0;".repeat(20)), 20, OutageScreen::does);
        OutageScreen x = tenLines();
        write(x, "drop 0;");
        for (int left = 9; left >= 0; left--) {
            due(x.does(), 1);
            due(x.told(4), left);
            due(x.told(5), 7);
        }
        due(x.does(), 0);
        due(x.told(6), 8);
    }

    @Says(at = "Promise 25", text = "If the text has a fault, nothing is executed.")
    private static void p25Fault() {
        fault("begin 2;x", 8);
        fault("drop 0;drop 0;drop", 18);
        fault("bus 1 9;bus 2 1234;", 17);
        fault("open 0;;", 7);
        // A fault is no error, and it is told again.
        OutageScreen x = ringWith("open 0;open").made();
        due(x.does(), -21);
        due(x.does(), -21);
        due(x.of(0, 4), 1);
        for (int what = 0; what <= 2; what++) {
            due(x.told(what), 0);
        }
    }

    @Says(at = "Promise 25", text = "Returns the number of commands that were not skipped; "
        + "-10 minus the fault if the text has one.")
    private static void p25Answers() {
        due(does(ring(), "drop 9;"), 0);
        due(does(ring(), "open 0;"), 1);
        due(does(ring(), "open0;".repeat(20)), 20);
        due(does(ring(), "open0;".repeat(9) + "open9;" + "open0;".repeat(10)), 19);
        due(does(ring(), ""), -10);
        due(does(ring(), " "), -11);
        due(does(ring(), "open0;".repeat(19) + "open0x"), -129);
        due(does(ring(), "open0;".repeat(19) + "open0 "), -130);
        // The injections before were -2, -3 and -4: that is no error.
        OutageScreen x = ring();
        x.feeds(1, -2);
        due(does(x, "bus 1 -3;bus 1 -4;bus 1 -1;bus 1 0;"), 4);
    }

    // ---- Promise 26: back

    @Says(at = "Promise 26", text = "Restores the grid that was kept last; it is not kept any more then.")
    private static void p26Restores() {
        OutageScreen x = ring();
        OutageScreen before = ring();
        x.begins(2);
        x.line(0, 1, 5, 5);
        due(x.back(), 7);
        due(x.told(3), 2);
        due(x.told(4), 0);
        due(x.back(), 6);
        same(x, before);
        // After back() the next change is kept in its place.
        OutageScreen y = fresh();
        y.feeds(0, 1);
        y.feeds(0, 2);
        due(y.back(), 1);
        y.feeds(0, 3);
        due(y.told(6), 2);
        due(y.back(), 1);
        due(y.back(), 0);
        due(y.feeds(0, 0), 0);
        // The grid alone is restored: the text and the counts stay.
        OutageScreen z = fresh();
        z.feeds(0, 1);
        z.type('a');
        z.told(7);
        due(z.back(), 0);
        due(z.told(5), 1);
        due(z.told(0), 1);
    }

    @Says(at = "Promise 26", text = "Returns how many states are still kept; NO if there is none.")
    private static void p26None() {
        no(BoundaryTest::fresh, OutageScreen::back);
        OutageScreen x = tenLines();
        due(x.told(6), 8);
        for (int left = 7; left >= 0; left--) {
            due(x.back(), left);
            due(x.told(6), left);
        }
        // Of twelve changes the last eight are taken back: begins() and three lines are left.
        due(x.told(4), 3);
        due(x.back(), NO);
        due(x.back(), NO);
        due(x.told(1), 2);
        due(x.told(6), 0);
        due(x.told(4), 3);
        x.feeds(0, 1);
        due(x.back(), 0);
    }

    // ---- Promise 27: told

    @Says(at = "Promise 27", text = "0 how often BAD occurred (also where another number was returned in its place)")
    private static void p27OtherNumbers() {
        OutageScreen x = one(5);
        x.fed(2);
        due(x.told(0), 1);
        x.shift(1);
        due(x.told(0), 2);
        x.switches(0, 0);
        x.shift(0);
        due(x.told(0), 2);
        due(x.told(1), 1);
        due(x.told(2), 0);
        // A fault stands in place of nothing.
        x.does();
        due(x.told(0), 2);
        due(x.told(1), 1);
    }

    @Says(at = "Promise 27", text = "1 how often NO, 2 how often FULL, 3 N, 4 lines, 5 bytes of the text, "
        + "6 kept states")
    private static void p27EmptyAndFull() {
        OutageScreen x = tenLines();
        write(x, " ".repeat(120));
        x.type(' ');
        x.line(0, 1, 1, 1);
        x.line(0, 1, 1, 1);
        x.shift(0);
        int[] due = {0, 1, 3, 2, 10, 120, 8};
        for (int what = 0; what <= 6; what++) {
            due(x.told(what), due[what]);
        }
        for (int n = 2; n <= 6; n++) {
            due(buses(n).told(3), n);
        }
        int[] first = {0, 0, 0, 4, 0, 0, 0};
        for (int what = 0; what <= 6; what++) {
            due(fresh().told(what), first[what]);
        }
    }

    @Says(at = "Promise 27", text = "Returns the count; BAD if what is out of range.")
    private static void p27OutOfRange() {
        bad(BoundaryTest::ring, x -> x.told(7), x -> x.told(-1), x -> x.told(LEAST), x -> x.told(GREATEST));
        OutageScreen x = fresh();
        x.told(7);
        x.told(-1);
        due(x.told(0), 2);
        // An answer of told() is no error.
        due(x.told(0), 2);
    }

    // ---- Promise 28: digest

    private static long hash(long... numbers) {
        BigInteger h = BigInteger.valueOf(1898);
        for (long number : numbers) {
            h = h.multiply(BigInteger.valueOf(31)).add(BigInteger.valueOf(number));
        }
        return h.longValue();
    }

    // The numbers of the digest, in the document's order, for an object with these own injections.
    private static long[] numbers(OutageScreen x, int... own) {
        List<Long> all = new ArrayList<>();
        for (int what = 0; what <= 6; what++) {
            all.add((long) x.told(what));
        }
        for (int i = 0; i < own.length; i++) {
            all.addAll(List.of((long) own[i], (long) x.island(i)));
        }
        for (int l = 0; l < x.count(1); l++) {
            for (int what = 0; what <= 5; what++) {
                all.add((long) x.of(l, what));
            }
            all.addAll(List.of(x.flow(l, 0), x.flow(l, 1)));
        }
        all.add(x.worst(NONE, 0));
        for (int what = 0; what <= 5; what++) {
            all.add((long) x.count(what));
        }
        return all.stream().mapToLong(Long::longValue).toArray();
    }

    @Says(at = "Promise 28", text = "It begins with h = 1898; for each of the following numbers, in this order, "
        + "h becomes 31 * h plus the number, in long arithmetic with overflow")
    private static void p28Overflow() {
        long[] fresh = {0, 0, 0, 4, 0, 0, 0, 0, 0, 0, 1, 0, 2, 0, 3, NONE, 4, 0, 0, 0, 0, 0};
        due(fresh().digest(), hash(fresh));
        due(Arrays.equals(numbers(fresh(), 0, 0, 0, 0), fresh) ? 1 : 0, 1);
        // The smallest and the largest grid.
        due(buses(2).digest(), hash(0, 0, 0, 2, 0, 0, 1, 0, 0, 0, 1, NONE, 2, 0, 0, 0, 0, 0));
        due(wheel().digest(), hash(numbers(wheel(), 99, 99, -99, 99, 99, 98)));
        due(tenLines().digest(), hash(numbers(tenLines(), 0, 90)));
        // One line with 11 of 10: the numbers by hand.
        due(one(11).digest(), hash(0, 0, 0, 2, 1, 0, 3, 0, 0, 11, 0,
            1, 0, 3, 10, 1, 1, 11, 1, 0, 1, 1, 1, 1, 1, 0));
    }

    @Says(at = "Promise 28", text = "for each bus its own injection and the result of island()")
    private static void p28OwnInjection() {
        // The own injection of a slack bus, though it has another one.
        OutageScreen x = one(11);
        x.feeds(0, -99);
        due(x.digest(), hash(0, 0, 0, 2, 1, 0, 4, -99, 0, 11, 0,
            1, 0, 3, 10, 1, 1, 11, 1, 0, 1, 1, 1, 1, 1, 0));
        due(ring().digest(), hash(numbers(ring(), 4, 5, 0)));
        due(parts().digest(), hash(numbers(parts(), 0, 0, 0, 9, 0, 0)));
    }

    @Says(at = "Promise 28", text = "the results of told(0) to told(6)")
    private static void p28Told() {
        OutageScreen x = tenLines();
        x.told(7);
        x.told(8);
        x.shift(0);
        x.line(0, 1, 1, 1);
        long[] due = numbers(x, 0, 90);
        due(due[0], 2);
        due(due[1], 1);
        due(due[2], 1);
        due(x.digest(), hash(due));
        // It counts nothing itself, and changes nothing.
        due(x.digest(), hash(due));
        asks(BoundaryTest::chain, chain().digest(), OutageScreen::digest);
    }
}
