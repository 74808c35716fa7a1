/**
 * For each promise of the document: ordinary inputs, the edges that it names, and wrong inputs.
 * The due answers are worked out by hand.
 */
public final class PromiseTest {
    private static final int NONE = -1, BAD = -2, NO = -3, FULL = -4;
    private static final int LEAST = Integer.MIN_VALUE, GREATEST = Integer.MAX_VALUE;

    private static int wrong = 0;
    private static int row = 0;
    private static String promise = "";

    public static void main(String[] args) {
        newObject();
        begins();
        feeds();
        line();
        drops();
        switches();
        sets();
        of();
        flow();
        angle();
        factor();
        island();
        trees();
        fed();
        outage();
        spread();
        worst();
        worstOfEqualOnes();
        ranked();
        pair();
        shift();
        transfer();
        transferSecure();
        count();
        type();
        clear();
        does();
        doesSkips();
        doesFaults();
        back();
        told();
        digest();
        System.out.println("PromiseTest: " + wrong + " wrong");
        if (wrong != 0) {
            System.exit(1);
        }
    }

    private static void promise(String name) {
        promise = name;
        row = 0;
    }

    private static void due(long got, long want) {
        row++;
        if (got != want) {
            wrong++;
            System.out.println(promise + ", answer " + row + ": answered " + got + ", due is " + want);
        }
    }

    private static void fraction(long top, long bottom, long wantTop, long wantBottom) {
        due(top, wantTop);
        due(bottom, wantBottom);
    }

    private static void write(OutageScreen x, String text) {
        x.clear();
        for (int i = 0; i < text.length(); i++) {
            x.type(text.charAt(i));
        }
    }

    private static int does(OutageScreen x, String text) {
        write(x, text);
        return x.does();
    }

    private static long hash(long... numbers) {
        long h = 1898;
        for (long number : numbers) {
            h = 31 * h + number;
        }
        return h;
    }

    // Three buses in a ring with the susceptances 1, 2 and 1; the weight is 5. An injection of 1 at bus 1
    // gives the angles 3/5 and 2/5 at the buses 1 and 2.
    private static OutageScreen ring() {
        OutageScreen x = new OutageScreen();
        x.begins(3);
        x.line(0, 1, 1, 30);
        x.line(1, 2, 2, 30);
        x.line(0, 2, 1, 15);
        return x;
    }

    // Buses 0 and 1 with two lines, bus 2 behind a bridge, buses 3 and 4 apart, bus 5 alone.
    private static OutageScreen parts() {
        OutageScreen x = new OutageScreen();
        x.begins(6);
        x.line(0, 1, 1, 100);
        x.line(1, 0, 3, 100);
        x.line(2, 1, 2, 100);
        x.line(3, 4, 5, 100);
        return x;
    }

    // Ten lines from bus 0 to bus 1 with the susceptances 1, 1, 2, 2 up to 5, 5: the sum is 30.
    // Bus 1 feeds 90, so that a line carries 3 for each unit of its susceptance.
    private static OutageScreen tenLines() {
        OutageScreen x = new OutageScreen();
        x.begins(2);
        for (int l = 0; l < 10; l++) {
            x.line(0, 1, 1 + l / 2, 9);
        }
        x.feeds(1, 90);
        return x;
    }

    private static void newObject() {
        promise("1 A new object");
        OutageScreen x = new OutageScreen();
        for (int what = 0; what <= 6; what++) {
            due(x.told(what), what == 3 ? 4 : 0);
        }
        for (int i = 0; i < 4; i++) {
            due(x.island(i), i);
            due(x.feeds(i, 0), 0);
        }
        OutageScreen y = new OutageScreen();
        due(y.does(), -10);
        due(y.clear(), 0);
        due(y.back(), NO);
        due(y.flow(0, 0), BAD);
        due(y.island(4), BAD);
    }

    private static void begins() {
        promise("2 begins");
        OutageScreen x = ring();
        x.feeds(1, 7);
        due(x.begins(3), 3);
        due(x.told(4), 0);
        due(x.feeds(1, 0), 0);
        due(x.told(6), 7);
        due(x.begins(2), 3);
        due(x.island(2), BAD);
        due(x.begins(6), 2);
        due(x.island(5), 5);
        due(x.begins(6), 6);
        due(x.begins(1), BAD);
        due(x.begins(7), BAD);
        due(x.begins(0), BAD);
        due(x.begins(-2), BAD);
        due(x.begins(LEAST), BAD);
        due(x.begins(GREATEST), BAD);
        due(x.told(0), 7);
        due(x.told(3), 6);
        due(x.told(6), 8);
        x.feeds(5, 9);
        x.begins(2);
        due(x.begins(6), 2);
        due(x.feeds(5, 1), 0);
        x.feeds(0, 3);
        x.begins(6);
        due(x.feeds(0, 0), 0);
    }

    private static void feeds() {
        promise("3 feeds");
        OutageScreen x = new OutageScreen();
        due(x.feeds(3, -2), 0);
        due(x.feeds(3, -99), -2);
        due(x.feeds(3, 99), -99);
        due(x.feeds(3, 99), 99);
        due(x.told(0), 0);
        due(x.told(6), 4);
        due(x.feeds(3, 100), BAD);
        due(x.feeds(3, -100), BAD);
        due(x.feeds(4, 0), BAD);
        due(x.feeds(-1, 0), BAD);
        due(x.feeds(LEAST, GREATEST), BAD);
        due(x.told(0), 5);
        due(x.told(6), 4);
        due(x.feeds(3, 0), 99);
        // A slack bus keeps its own injection, though it has another one.
        due(x.feeds(0, 12), 0);
        due(x.feeds(0, 13), 12);
        due(x.fed(0), 0);
    }

    private static void line() {
        promise("4 line");
        OutageScreen x = new OutageScreen();
        due(x.line(0, 3, 1, 1), 0);
        due(x.line(3, 0, 5, 999), 1);
        due(x.line(3, 0, 5, 999), 2);
        due(x.of(1, 4), 1);
        due(x.line(1, 1, 1, 1), BAD);
        due(x.line(-1, 1, 1, 1), BAD);
        due(x.line(4, 1, 1, 1), BAD);
        due(x.line(1, -1, 1, 1), BAD);
        due(x.line(1, 4, 1, 1), BAD);
        due(x.line(1, 2, 0, 1), BAD);
        due(x.line(1, 2, 6, 1), BAD);
        due(x.line(1, 2, 1, 0), BAD);
        due(x.line(1, 2, 1, 1000), BAD);
        due(x.line(LEAST, GREATEST, LEAST, GREATEST), BAD);
        due(x.told(4), 3);
        due(x.told(6), 3);
        for (int l = 3; l < 10; l++) {
            due(x.line(1, 2, 1, 1), l);
        }
        due(x.line(1, 2, 1, 1), FULL);
        due(x.line(1, 1, 1, 1), BAD);
        due(x.told(0), 11);
        due(x.told(2), 1);
        due(x.told(4), 10);
        due(x.told(6), 8);
        due(x.drops(9), 9);
        due(x.line(1, 2, 1, 1), 9);
    }

    private static void drops() {
        promise("5 drops");
        OutageScreen x = parts();
        x.switches(2, 0);
        due(x.drops(1), 3);
        due(x.of(0, 2), 1);
        due(x.of(1, 0), 2);
        due(x.of(1, 1), 1);
        due(x.of(1, 2), 2);
        due(x.of(1, 4), 0);
        due(x.of(2, 0), 3);
        due(x.of(2, 4), 1);
        due(x.of(3, 0), BAD);
        due(x.drops(3), BAD);
        due(x.drops(-1), BAD);
        due(x.drops(LEAST), BAD);
        due(x.drops(GREATEST), BAD);
        due(x.told(6), 7);
        due(x.told(0), 5);
        due(x.drops(2), 2);
        due(x.drops(0), 1);
        due(x.drops(0), 0);
        due(x.drops(0), BAD);
        due(x.line(0, 1, 4, 4), 0);
        due(x.of(0, 4), 1);
    }

    private static void switches() {
        promise("6 switches");
        OutageScreen x = parts();
        due(x.switches(2, 1), 1);
        due(x.told(6), 6);
        due(x.switches(2, 0), 1);
        due(x.switches(2, 0), 0);
        due(x.island(2), 2);
        due(x.switches(2, 1), 0);
        due(x.island(2), 0);
        due(x.told(6), 8);
        due(x.switches(2, 2), BAD);
        due(x.switches(2, -1), BAD);
        due(x.switches(4, 1), BAD);
        due(x.switches(-1, 1), BAD);
        due(x.switches(GREATEST, LEAST), BAD);
        due(x.told(0), 5);
        due(x.of(2, 4), 1);
    }

    private static void sets() {
        promise("7 sets");
        OutageScreen x = ring();
        due(x.sets(1, 0, 5), 2);
        due(x.sets(1, 0, 1), 5);
        due(x.sets(1, 1, 999), 30);
        due(x.sets(1, 1, 1), 999);
        due(x.told(6), 8);
        due(x.sets(1, 0, 6), BAD);
        due(x.sets(1, 0, 0), BAD);
        due(x.sets(1, 1, 0), BAD);
        due(x.sets(1, 1, 1000), BAD);
        due(x.sets(1, 2, 1), BAD);
        due(x.sets(1, -1, 1), BAD);
        due(x.sets(3, 0, 1), BAD);
        due(x.sets(3, 1, 1), BAD);
        due(x.sets(-1, 1, 1), BAD);
        due(x.told(0), 9);
        due(x.of(1, 2), 1);
        due(x.of(1, 3), 1);
        // With susceptances of 1 each, the three trees of the ring weigh 1.
        due(x.trees(0), 3);
    }

    private static void of() {
        promise("8 of");
        OutageScreen x = parts();
        x.sets(2, 1, 77);
        due(x.of(2, 0), 2);
        due(x.of(2, 1), 1);
        due(x.of(2, 2), 2);
        due(x.of(2, 3), 77);
        due(x.of(2, 4), 1);
        due(x.of(2, 5), 1);
        due(x.of(0, 5), 0);
        due(x.of(1, 5), 0);
        due(x.of(3, 5), 1);
        x.switches(1, 0);
        due(x.of(1, 4), 0);
        due(x.of(1, 5), 0);
        due(x.of(0, 5), 1);
        due(x.of(0, 6), BAD);
        due(x.of(0, -1), BAD);
        due(x.of(4, 0), BAD);
        due(x.of(-1, 0), BAD);
        due(x.of(LEAST, GREATEST), BAD);
        due(x.told(0), 5);
    }

    private static void flow() {
        promise("9 flow");
        OutageScreen x = ring();
        fraction(x.flow(0, 0), x.flow(0, 1), 0, 1);
        x.feeds(1, 1);
        fraction(x.flow(0, 0), x.flow(0, 1), -3, 5);
        fraction(x.flow(1, 0), x.flow(1, 1), 2, 5);
        fraction(x.flow(2, 0), x.flow(2, 1), -2, 5);
        x.feeds(1, -10);
        fraction(x.flow(0, 0), x.flow(0, 1), 6, 1);
        fraction(x.flow(1, 0), x.flow(1, 1), -4, 1);
        x.switches(1, 0);
        fraction(x.flow(1, 0), x.flow(1, 1), 0, 1);
        fraction(x.flow(0, 0), x.flow(0, 1), 10, 1);
        fraction(x.flow(2, 0), x.flow(2, 1), 0, 1);
        // The own injection of a slack bus does not matter.
        x.feeds(0, 99);
        fraction(x.flow(0, 0), x.flow(0, 1), 10, 1);
        due(x.flow(0, 2), BAD);
        due(x.flow(0, -1), BAD);
        due(x.flow(3, 0), BAD);
        due(x.flow(-1, 1), BAD);
        due(x.flow(GREATEST, LEAST), BAD);
        due(x.told(0), 5);
        // A true flow of -2 is no error.
        x.feeds(1, 2);
        due(x.flow(0, 0), -2);
        due(x.told(0), 5);
    }

    private static void angle() {
        promise("10 angle");
        OutageScreen x = ring();
        x.feeds(1, 1);
        fraction(x.angle(0, 0), x.angle(0, 1), 0, 1);
        fraction(x.angle(1, 0), x.angle(1, 1), 3, 5);
        fraction(x.angle(2, 0), x.angle(2, 1), 2, 5);
        x.feeds(2, 1);
        // Bus 2 alone gives the angles 2/5 and 3/5.
        fraction(x.angle(1, 0), x.angle(1, 1), 1, 1);
        fraction(x.angle(2, 0), x.angle(2, 1), 1, 1);
        due(x.angle(0, 2), BAD);
        due(x.angle(0, -1), BAD);
        due(x.angle(3, 0), BAD);
        due(x.angle(-1, 0), BAD);
        due(x.told(0), 4);
        OutageScreen y = parts();
        y.feeds(3, 50);
        y.feeds(4, -12);
        y.feeds(5, 40);
        fraction(y.angle(3, 0), y.angle(3, 1), 0, 1);
        fraction(y.angle(4, 0), y.angle(4, 1), -12, 5);
        fraction(y.angle(5, 0), y.angle(5, 1), 0, 1);
    }

    private static void factor() {
        promise("11 factor");
        OutageScreen x = ring();
        x.feeds(1, 50);
        fraction(x.factor(0, 0, 0), x.factor(0, 0, 1), 0, 1);
        fraction(x.factor(0, 1, 0), x.factor(0, 1, 1), -3, 5);
        fraction(x.factor(1, 1, 0), x.factor(1, 1, 1), 2, 5);
        fraction(x.factor(2, 1, 0), x.factor(2, 1, 1), -2, 5);
        fraction(x.factor(2, 2, 0), x.factor(2, 2, 1), -3, 5);
        x.switches(0, 0);
        fraction(x.factor(0, 1, 0), x.factor(0, 1, 1), 0, 1);
        fraction(x.factor(2, 1, 0), x.factor(2, 1, 1), -1, 1);
        due(x.factor(3, 0, 0), BAD);
        due(x.factor(-1, 0, 0), BAD);
        due(x.factor(0, 3, 0), BAD);
        due(x.factor(0, -1, 0), BAD);
        due(x.factor(0, 0, 2), BAD);
        due(x.factor(0, 0, -1), BAD);
        due(x.told(0), 6);
        OutageScreen y = parts();
        fraction(y.factor(3, 1, 0), y.factor(3, 1, 1), 0, 1);
        fraction(y.factor(0, 2, 0), y.factor(0, 2, 1), -1, 4);
        fraction(y.factor(3, 4, 0), y.factor(3, 4, 1), -1, 1);
        fraction(y.factor(3, 3, 0), y.factor(3, 3, 1), 0, 1);
    }

    private static void island() {
        promise("12 island");
        OutageScreen x = parts();
        int[] slack = {0, 0, 0, 3, 3, 5};
        for (int i = 0; i < 6; i++) {
            due(x.island(i), slack[i]);
        }
        x.line(5, 4, 1, 1);
        due(x.island(5), 3);
        x.line(5, 2, 1, 1);
        due(x.island(4), 0);
        x.switches(4, 0);
        due(x.island(4), 3);
        due(x.island(5), 0);
        due(x.island(6), BAD);
        due(x.island(-1), BAD);
        due(x.island(LEAST), BAD);
        due(x.told(0), 3);
    }

    private static void trees() {
        promise("13 trees");
        OutageScreen x = parts();
        long[] weights = {8, 8, 8, 5, 5, 1};
        for (int i = 0; i < 6; i++) {
            due(x.trees(i), weights[i]);
        }
        x.switches(1, 0);
        due(x.trees(1), 2);
        x.sets(0, 0, 4);
        due(x.trees(1), 8);
        due(x.trees(3), 5);
        due(x.trees(6), BAD);
        due(x.trees(-1), BAD);
        due(x.trees(GREATEST), BAD);
        due(x.told(0), 3);
        // Ten lines of susceptance 5: K5 has 125 trees of 4 lines each.
        OutageScreen y = new OutageScreen();
        y.begins(5);
        for (int a = 0; a < 5; a++) {
            for (int b = a + 1; b < 5; b++) {
                y.line(b, a, 5, 9);
            }
        }
        due(y.trees(4), 125 * 625);
    }

    private static void fed() {
        promise("14 fed");
        OutageScreen x = parts();
        for (int i = 0; i < 6; i++) {
            x.feeds(i, 10 * i + 7);
        }
        int[] has = {-17 - 27, 17, 27, -47, 47, 0};
        for (int i = 0; i < 6; i++) {
            due(x.fed(i), has[i]);
        }
        x.switches(2, 0);
        due(x.fed(2), 0);
        due(x.fed(0), -17);
        due(x.fed(6), -99999);
        due(x.fed(-1), -99999);
        due(x.fed(LEAST), -99999);
        due(x.told(0), 3);
    }

    private static void outage() {
        promise("15 outage");
        OutageScreen x = ring();
        x.feeds(1, 1);
        fraction(x.outage(0, 1, 0), x.outage(0, 1, 1), -1, 1);
        fraction(x.outage(1, 0, 0), x.outage(1, 0, 1), 1, 1);
        fraction(x.outage(2, 0, 0), x.outage(2, 0, 1), -1, 1);
        fraction(x.outage(0, 0, 0), x.outage(0, 0, 1), 0, 1);
        fraction(x.flow(0, 0), x.flow(0, 1), -3, 5);
        x.switches(1, 0);
        fraction(x.outage(1, 0, 0), x.outage(1, 0, 1), 0, 1);
        due(x.outage(0, 1, 0), NO);
        due(x.outage(0, 1, 2), BAD);
        due(x.outage(0, 1, -1), BAD);
        due(x.outage(3, 1, 0), BAD);
        due(x.outage(-1, 0, 0), BAD);
        due(x.outage(0, 3, 0), BAD);
        due(x.outage(0, -1, 0), BAD);
        due(x.told(0), 6);
        due(x.told(1), 1);
        // A bridge: bus 2 becomes the slack bus of its part.
        OutageScreen y = new OutageScreen();
        y.line(0, 1, 3, 20);
        y.line(1, 2, 1, 20);
        y.line(2, 3, 5, 20);
        y.feeds(3, 30);
        y.feeds(1, -5);
        fraction(y.outage(0, 1, 0), y.outage(0, 1, 1), 5, 1);
        fraction(y.outage(2, 1, 0), y.outage(2, 1, 1), -30, 1);
        fraction(y.outage(1, 1, 0), y.outage(1, 1, 1), 0, 1);
    }

    private static void spread() {
        promise("16 spread");
        OutageScreen x = parts();
        x.line(4, 3, 1, 9);
        fraction(x.spread(0, 1, 0), x.spread(0, 1, 1), -1, 1);
        fraction(x.spread(1, 0, 0), x.spread(1, 0, 1), -1, 1);
        fraction(x.spread(0, 0, 0), x.spread(0, 0, 1), 0, 1);
        fraction(x.spread(2, 0, 0), x.spread(2, 0, 1), 0, 1);
        fraction(x.spread(3, 0, 0), x.spread(3, 0, 1), 0, 1);
        fraction(x.spread(0, 4, 0), x.spread(0, 4, 1), 0, 1);
        due(x.spread(0, 2, 0), NO);
        x.line(0, 1, 1, 9);
        fraction(x.spread(1, 0, 0), x.spread(1, 0, 1), -3, 4);
        fraction(x.spread(5, 0, 0), x.spread(5, 0, 1), 1, 4);
        x.switches(5, 0);
        fraction(x.spread(5, 0, 0), x.spread(5, 0, 1), 0, 1);
        due(x.spread(0, 5, 0), NO);
        due(x.spread(5, 5, 1), NO);
        due(x.spread(2, 2, 0), NO);
        due(x.spread(0, 5, 2), BAD);
        due(x.spread(0, 1, -1), BAD);
        due(x.spread(6, 5, 0), BAD);
        due(x.spread(-1, 1, 0), BAD);
        due(x.spread(0, 6, 0), BAD);
        due(x.spread(0, -1, 0), BAD);
        due(x.told(0), 6);
        due(x.told(1), 4);
    }

    private static void worst() {
        promise("17 worst");
        OutageScreen x = ring();
        x.feeds(1, 50);
        // The flows are -30, 20 and -20.
        due(x.worst(NONE, 0), 2);
        fraction(x.worst(NONE, 1), x.worst(NONE, 2), 4, 3);
        due(x.worst(NONE, 3), 1);
        due(x.worst(0, 0), 2);
        fraction(x.worst(0, 1), x.worst(0, 2), 10, 3);
        due(x.worst(0, 3), 2);
        due(x.worst(2, 0), 0);
        fraction(x.worst(2, 1), x.worst(2, 2), 5, 3);
        due(x.worst(2, 3), 1);
        x.switches(0, 0);
        due(x.worst(0, 0), NO);
        due(x.worst(0, 4), BAD);
        due(x.worst(NONE, 4), BAD);
        due(x.worst(NONE, -1), BAD);
        due(x.worst(3, 0), BAD);
        due(x.worst(-2, 0), BAD);
        due(x.worst(LEAST, 0), BAD);
        due(x.told(0), 6);
        due(x.told(1), 1);
    }

    private static void worstOfEqualOnes() {
        promise("17 worst, of equal ones and of none");
        OutageScreen x = new OutageScreen();
        due(x.worst(NONE, 0), NONE);
        fraction(x.worst(NONE, 1), x.worst(NONE, 2), 0, 1);
        due(x.worst(NONE, 3), 0);
        x.line(0, 1, 2, 10);
        due(x.worst(0, 0), NONE);
        fraction(x.worst(0, 1), x.worst(0, 2), 0, 1);
        x.line(1, 0, 4, 20);
        x.line(2, 3, 1, 30);
        due(x.worst(NONE, 0), 0);
        x.feeds(1, 30);
        // The loadings are 10/10, 20/20 and 0/30: a loading of 1 is no overload.
        due(x.worst(NONE, 0), 0);
        fraction(x.worst(NONE, 1), x.worst(NONE, 2), 1, 1);
        due(x.worst(NONE, 3), 0);
        x.feeds(3, -31);
        due(x.worst(NONE, 0), 2);
        fraction(x.worst(NONE, 1), x.worst(NONE, 2), 31, 30);
        due(x.worst(NONE, 3), 1);
        x.switches(0, 0);
        due(x.worst(NONE, 0), 1);
        x.begins(3);
        due(x.worst(NONE, 0), NONE);
        fraction(x.worst(NONE, 1), x.worst(NONE, 2), 0, 1);
    }

    private static void ranked() {
        promise("18 ranked");
        OutageScreen x = ring();
        x.feeds(1, 50);
        // After the outages of 0, 1 and 2 the worst loadings are 10/3, 5/3 and 5/3.
        due(x.ranked(0), 0);
        due(x.ranked(1), 1);
        due(x.ranked(2), 2);
        due(x.ranked(3), NONE);
        due(x.ranked(GREATEST), NONE);
        due(x.ranked(-1), BAD);
        due(x.ranked(LEAST), BAD);
        due(x.told(0), 2);
        x.sets(1, 1, 10);
        x.sets(2, 1, 99);
        x.feeds(2, 20);
        // Now they are 5, 5/3 and 7/3.
        due(x.ranked(0), 0);
        due(x.ranked(1), 2);
        due(x.ranked(2), 1);
        x.switches(0, 0);
        // The outage of 2 leaves 20/10 on line 1, that of 1 20/99 on line 2.
        due(x.ranked(0), 2);
        due(x.ranked(1), 1);
        due(x.ranked(2), NONE);
        due(new OutageScreen().ranked(0), NONE);
        OutageScreen y = tenLines();
        // The stronger the line that is out, the more the others carry; equal ones go by their numbers.
        int[] order = {8, 9, 6, 7, 4, 5, 2, 3, 0, 1};
        for (int i = 0; i < 10; i++) {
            due(y.ranked(i), order[i]);
        }
        due(y.ranked(10), NONE);
    }

    private static void pair() {
        promise("19 pair");
        OutageScreen x = new OutageScreen();
        x.begins(2);
        x.line(0, 1, 1, 10);
        x.line(0, 1, 1, 20);
        x.line(0, 1, 1, 5);
        due(x.pair(2, 0), 1);
        due(x.pair(3, 0), NONE);
        x.feeds(1, 12);
        // Without 0 and 1 it is 12/5, without 0 and 2 12/20, without 1 and 2 12/10.
        long[][] rows = {{0, 1, 12, 5}, {1, 2, 6, 5}, {0, 2, 3, 5}};
        for (int i = 0; i < 3; i++) {
            for (int what = 0; what <= 3; what++) {
                due(x.pair(i, what), rows[i][what]);
            }
        }
        x.sets(0, 1, 5);
        x.sets(2, 1, 10);
        // Now the same pairs have 12/10, 12/20 and 12/5.
        due(x.pair(0, 0), 1);
        due(x.pair(0, 1), 2);
        due(x.pair(1, 0), 0);
        due(x.pair(1, 1), 1);
        due(x.pair(2, 0), 0);
        due(x.pair(2, 1), 2);
        x.sets(2, 1, 5);
        x.sets(0, 1, 20);
        due(x.pair(1, 0), 0);
        due(x.pair(1, 1), 2);
        due(x.pair(2, 0), 1);
        x.switches(2, 0);
        due(x.pair(0, 0), 0);
        due(x.pair(0, 1), 1);
        due(x.pair(0, 2), 0);
        due(x.pair(0, 3), 1);
        due(x.pair(1, 0), NONE);
        x.switches(1, 0);
        due(x.pair(0, 0), NONE);
        due(x.pair(GREATEST, 3), NONE);
        due(x.pair(0, 4), BAD);
        due(x.pair(0, -1), BAD);
        due(x.pair(-1, 0), BAD);
        due(x.pair(GREATEST, 4), BAD);
        due(x.told(0), 4);
        for (int l = 3; l < 10; l++) {
            x.line(1, 0, 5, 900);
        }
        x.switches(1, 1);
        x.switches(2, 1);
        due(x.pair(44, 3) > 0 ? 1 : 0, 1);
        due(x.pair(45, 3), NONE);
    }

    private static void shift() {
        promise("20 shift");
        OutageScreen x = new OutageScreen();
        x.begins(5);
        x.line(3, 1, 1, 9);
        x.line(3, 4, 1, 9);
        x.line(0, 3, 1, 9);
        int[] own = {50, 7, 30, -3, -40};
        for (int i = 0; i < 5; i++) {
            x.feeds(i, own[i]);
        }
        due(x.shift(0), 7);
        due(x.shift(1), -40);
        due(x.shift(2), 7 - 3 - 40);
        due(x.shift(3), -9999);
        due(x.shift(-1), -9999);
        due(x.shift(LEAST), -9999);
        due(x.told(0), 3);
        due(x.told(1), 0);
        x.line(1, 0, 1, 9);
        due(x.shift(0), -9998);
        due(x.shift(1), -40);
        x.switches(1, 0);
        due(x.shift(1), -9998);
        due(x.told(1), 2);
        due(x.told(0), 3);
    }

    private static void transfer() {
        promise("21 transfer");
        OutageScreen x = ring();
        // From 1 to 0, t flows as 3t/5, 2t/5 and 2t/5 over the lines with the limits 30, 30 and 15.
        due(x.transfer(1, 0, 0), 37);
        due(x.transfer(0, 1, 0), 37);
        // From 1 to 2: t/5 over line 0, 4t/5 over line 1, t/5 over line 2.
        due(x.transfer(1, 2, 0), 37);
        x.sets(1, 1, 999);
        due(x.transfer(2, 1, 0), 75);
        // A limit that is reached is none that is exceeded.
        x.sets(2, 1, 14);
        due(x.transfer(1, 0, 0), 35);
        x.feeds(1, 35);
        due(x.transfer(1, 0, 0), 0);
        due(x.transfer(0, 1, 0), 70);
        x.feeds(1, 36);
        due(x.transfer(1, 0, 0), NONE);
        due(x.transfer(0, 1, 0), NONE);
        due(x.transfer(0, 0, 0), BAD);
        due(x.transfer(3, 0, 0), BAD);
        due(x.transfer(0, 3, 0), BAD);
        due(x.transfer(-1, 0, 0), BAD);
        due(x.transfer(0, -1, 0), BAD);
        due(x.transfer(0, 1, 2), BAD);
        due(x.transfer(0, 1, -1), BAD);
        due(x.told(0), 7);
        OutageScreen y = parts();
        due(y.transfer(0, 3, 0), NO);
        due(y.transfer(5, 4, 1), NO);
        due(y.transfer(0, 5, 2), BAD);
        due(y.told(1), 2);
        due(y.transfer(3, 4, 0), 100);
        // A line of another island counts too.
        y.feeds(4, 99);
        y.sets(3, 1, 98);
        due(y.transfer(0, 1, 0), NONE);
        OutageScreen z = new OutageScreen();
        for (int l = 0; l < 10; l++) {
            z.line(0, 1, 1, 999);
        }
        due(z.transfer(0, 1, 0), 9990);
        z.feeds(1, 8);
        due(z.transfer(0, 1, 0), 9998);
        z.feeds(1, 9);
        due(z.transfer(0, 1, 0), 9999);
        z.feeds(1, 99);
        due(z.transfer(0, 1, 0), 9999);
        due(z.transfer(1, 0, 0), 9891);
    }

    private static void transferSecure() {
        promise("21 transfer, secure");
        OutageScreen x = ring();
        // The outage of line 0 leaves the limit 15 on the way over bus 2, that of another one 30.
        due(x.transfer(1, 0, 1), 15);
        x.sets(2, 1, 30);
        due(x.transfer(1, 0, 1), 30);
        x.feeds(1, 31);
        due(x.transfer(1, 0, 0), 19);
        due(x.transfer(1, 0, 1), NONE);
        due(x.transfer(0, 1, 1), NONE);
        // Line 2 is a bridge: its outage does not count, but its own limit does.
        OutageScreen y = parts();
        y.feeds(2, 40);
        y.sets(0, 1, 60);
        due(y.transfer(2, 0, 0), 60);
        due(y.transfer(2, 0, 1), 20);
        y.switches(1, 0);
        due(y.transfer(2, 0, 1), 20);
        due(y.transfer(2, 1, 1), 60);
        // The outage of line 1 would leave 50 on line 0, but line 1 is a bridge.
        OutageScreen z = new OutageScreen();
        z.line(0, 1, 1, 10);
        z.line(1, 2, 1, 60);
        z.feeds(1, -50);
        z.feeds(2, 50);
        due(z.worst(1, 3), 1);
        due(z.transfer(0, 1, 1), 10);
        due(tenLines().transfer(0, 1, 1) >= 0 ? 1 : 0, 0);
        // A double line of another island counts too.
        y.line(3, 4, 5, 30);
        y.feeds(4, 50);
        due(y.transfer(2, 1, 0), 60);
        due(y.transfer(2, 1, 1), NONE);
    }

    private static void count() {
        promise("22 count");
        OutageScreen x = parts();
        x.feeds(1, 90);
        x.feeds(4, 50);
        x.sets(0, 1, 30);
        x.sets(3, 1, 50);
        // Line 0 carries 22.5 of 30, line 1 67.5 of 100; alone line 0 is overloaded, line 1 is not.
        int[] due = {3, 4, 4, 2, 0, 1, 2};
        for (int what = 0; what <= 6; what++) {
            due(x.count(what), due[what]);
        }
        x.sets(3, 1, 49);
        // Line 3 is overloaded now, except after its own outage.
        due(x.count(4), 1);
        due(x.count(5), 3);
        due(x.count(6), 4);
        x.switches(1, 0);
        due(x.count(0), 3);
        due(x.count(1), 4);
        due(x.count(2), 3);
        due(x.count(3), 3);
        due(x.count(4), 2);
        OutageScreen y = tenLines();
        due(y.count(3), 0);
        due(y.count(5), 10);
        due(y.count(6), 45);
        due(x.count(7), BAD);
        due(x.count(-1), BAD);
        due(x.count(LEAST), BAD);
        due(x.told(0), 3);
    }

    private static void type() {
        promise("23 type");
        OutageScreen x = new OutageScreen();
        due(x.type(0), 1);
        due(x.type(127), 2);
        due(x.type(128), BAD);
        due(x.type(-1), BAD);
        due(x.type(LEAST), BAD);
        due(x.told(5), 2);
        for (int length = 3; length <= 120; length++) {
            due(x.type(' '), length);
        }
        due(x.type(' '), FULL);
        due(x.type(128), BAD);
        due(x.told(0), 4);
        due(x.told(2), 1);
        due(x.told(5), 120);
        due(x.told(6), 0);
    }

    private static void clear() {
        promise("24 clear");
        OutageScreen x = new OutageScreen();
        due(x.clear(), 0);
        write(x, "open 0;");
        due(x.clear(), 7);
        due(x.told(5), 0);
        due(x.does(), -10);
        due(x.type('x'), 1);
        due(x.does(), -10);
        due(x.clear(), 1);
        due(x.told(6), 0);
    }

    private static void does() {
        promise("25 does");
        OutageScreen x = new OutageScreen();
        due(does(x, "begin 6;line 0 1 2 40;line 1 2 3 999;bus 1 -20;bus 2 99;"), 5);
        due(x.told(3), 6);
        due(x.told(5), 56);
        due(x.told(6), 1);
        due(x.fed(0), -79);
        due(x.fed(1), -20);
        due(x.of(1, 3), 999);
        due(does(x, "limit 0 7;strength 1 5;open 0;"), 3);
        due(x.of(0, 3), 7);
        due(x.of(1, 2), 5);
        due(x.of(0, 4), 0);
        due(does(x, "close 0;"), 1);
        due(x.of(0, 4), 1);
        due(does(x, "drop 0;"), 1);
        due(x.of(0, 2), 5);
        due(x.told(6), 4);
        // The text stays and can be executed again.
        due(x.does(), 1);
        due(x.does(), 0);
        due(x.told(6), 6);
        due(x.back(), 5);
        due(x.back(), 4);
        due(x.told(4), 1);
        due(does(x, "  bus0-9;bus 1 -99 ;  bus   001   -0;line0 1 1 1;  "), 4);
        due(x.feeds(0, 0), -9);
        due(x.feeds(1, 0), 0);
        due(x.told(4), 2);
    }

    private static void doesSkips() {
        promise("25 does, with commands that are skipped");
        OutageScreen x = new OutageScreen();
        due(does(x, "bus 0 100;bus 0 -100;bus 4 0;open 0;close 0;drop 0;limit 0 5;strength 0 5;"), 0);
        due(does(x, "begin 1;begin 7;line 0 0 1 1;line 0 1 6 1;line 0 1 1 0;line 0 4 1 1;"), 0);
        due(does(x, "line 0 1 1 1;limit 0 0;limit 0 999;strength 0 6;strength 0 0;open 1;drop 1;"), 2);
        due(x.of(0, 3), 999);
        due(x.told(0), 0);
        due(x.told(6), 3);
        // A previous injection that looks like an error is none.
        x.feeds(1, -2);
        due(does(x, "bus 1 -3;bus 1 -4;bus 1 -99;bus 1 999;bus 1 0;"), 4);
        String ten = "line 0 1 1 1;";
        due(does(x, ten + ten + ten + ten + ten + ten + ten + ten + ten), 9);
        due(does(x, ten + ten + "drop 3;" + ten + ten), 2);
        due(x.told(2), 0);
        due(x.told(4), 10);
        // begin takes the lines away from the commands that follow.
        due(does(x, "begin 2;open 0;bus 2 1;bus 1 5;line 1 0 1 1;"), 3);
        due(x.told(3), 2);
        due(x.fed(0), -5);
    }

    private static void fault(String text, int at) {
        OutageScreen x = new OutageScreen();
        due(does(x, text), -10 - at);
        due(x.told(6), 0);
        due(x.told(0), 0);
        due(x.told(3), 4);
    }

    private static void doesFaults() {
        promise("25 does, faults");
        fault("", 0);
        fault("   ", 3);
        fault(";", 0);
        fault("7", 0);
        fault("  Bus 0 0;", 2);
        fault("begin 2;op", 8);
        fault("op", 0);
        fault("aus 0 0;", 0);
        fault("bin 2;", 0);
        fault("openx 0;", 0);
        fault("openX 0;", 4);
        fault("  buss 0 0;", 2);
        fault("bu s 0 0;", 0);
        fault("open", 4);
        fault("open  ", 6);
        fault("open;", 4);
        fault("open 0", 6);
        fault("open 0 ", 7);
        fault("open 0;;", 7);
        fault("open 0 0;", 7);
        fault("open 0 close 0;", 7);
        fault("open close;", 5);
        fault("open -1;", 5);
        fault("open 1234;", 8);
        fault("open 0001;", 8);
        fault("open 1 2 3", 7);
        fault("bus 1;", 5);
        fault("bus 123;", 7);
        fault("bus 1234;", 7);
        fault("bus -1 1;", 4);
        fault("bus 1 --1;", 7);
        fault("bus 1 - 1;", 7);
        fault("bus 1 -", 7);
        fault("bus 1 -;", 7);
        fault("bus 1 -1234;", 10);
        fault("bus 1 1-;", 7);
        fault("line 0 1 2;", 10);
        fault("line 0 1 -2 3;", 9);
        fault("line 0 1 2 -3;", 11);
        fault("line 0 1 2 3 4;", 13);
        fault("limit 0;", 7);
        fault("limit 0 -5;", 8);
        fault("strength 0 5", 12);
        fault("begin 2;begin 3;begin 4", 23);
        fault("begin 2;\tbegin 3;", 8);
        fault("begin\0002;", 5);
        fault("begin 2;\177", 8);
        fault("begin 2;`", 8);
        fault("begin 2;{", 8);
        fault("begin /;", 6);
        fault("begin :;", 6);
        String full = "open 0;".repeat(17);
        fault(full + "o", 119);
        fault(full + "0", 119);
        // What stood behind the end of the text before does not matter.
        OutageScreen x = new OutageScreen();
        due(does(x, "begin 223;"), 0);
        due(does(x, "begin 223"), -19);
        due(does(x, "begin 2"), -17);
        due(does(x, "begin "), -16);
        due(does(x, "begi"), -10);
        due(x.back(), 0);
        due(does(x, full + " "), 0);
        due(x.told(5), 120);
        due(does(x, "open0;".repeat(20)), 0);
        due(x.told(6), 2);
    }

    private static void back() {
        promise("26 back");
        OutageScreen x = new OutageScreen();
        due(x.back(), NO);
        due(x.told(1), 1);
        x.feeds(0, 5);
        x.line(0, 1, 2, 3);
        x.line(1, 2, 4, 5);
        x.switches(0, 0);
        x.sets(1, 0, 1);
        x.sets(1, 1, 9);
        x.drops(0);
        x.begins(2);
        due(x.told(6), 8);
        due(x.back(), 7);
        due(x.of(0, 0), 1);
        due(x.of(0, 1), 2);
        due(x.told(3), 4);
        due(x.of(0, 3), 9);
        due(x.back(), 6);
        due(x.of(0, 0), 0);
        due(x.of(0, 1), 1);
        due(x.of(0, 4), 0);
        due(x.of(1, 3), 9);
        due(x.back(), 5);
        due(x.of(1, 3), 5);
        due(x.back(), 4);
        due(x.of(1, 2), 4);
        due(x.back(), 3);
        due(x.of(0, 4), 1);
        due(x.back(), 2);
        due(x.back(), 1);
        due(x.told(4), 0);
        due(x.back(), 0);
        due(x.feeds(0, 0), 0);
        due(x.told(6), 1);
        for (int v = 1; v <= 20; v++) {
            x.feeds(0, v);
        }
        x.feeds(0, 100);
        x.type('a');
        for (int left = 7; left >= 0; left--) {
            due(x.back(), left);
        }
        due(x.back(), NO);
        due(x.told(1), 2);
        due(x.told(5), 1);
        due(x.feeds(0, 0), 12);
    }

    private static void told() {
        promise("27 told");
        OutageScreen x = new OutageScreen();
        due(x.told(7), BAD);
        due(x.told(-1), BAD);
        due(x.told(GREATEST), BAD);
        due(x.told(0), 3);
        x.fed(9);
        x.shift(9);
        due(x.told(0), 5);
        x.line(0, 1, 1, 1);
        x.line(0, 1, 1, 1);
        x.shift(0);
        x.transfer(0, 3, 0);
        x.switches(0, 0);
        x.outage(0, 0, 0);
        x.spread(0, 1, 0);
        x.worst(0, 0);
        due(x.told(1), 5);
        due(x.told(2), 0);
        x.begins(5);
        x.type('x');
        x.does();
        due(x.told(3), 5);
        due(x.told(4), 0);
        due(x.told(5), 1);
        due(x.told(6), 4);
        due(x.told(0), 5);
    }

    private static void digest() {
        promise("28 digest");
        OutageScreen x = new OutageScreen();
        due(x.digest(), hash(0, 0, 0, 4, 0, 0, 0, 0, 0, 0, 1, 0, 2, 0, 3, NONE, 4, 0, 0, 0, 0, 0));
        x.begins(3);
        x.feeds(0, 4);
        x.feeds(1, 1);
        x.feeds(2, -2);
        x.line(0, 1, 1, 30);
        x.line(0, 1, 2, 1);
        x.line(2, 1, 5, 1);
        x.switches(2, 0);
        x.type('q');
        x.type(200);
        x.told(7);
        x.shift(0);
        long want = hash(2, 1, 0, 3, 3, 1, 8, 4, 0, 1, 0, -2, 2,
            0, 1, 1, 30, 1, 0, -1, 3, 0, 1, 2, 1, 1, 0, -2, 3, 2, 1, 5, 1, 0, 0, 0, 1,
            1, 2, 3, 2, 0, 0, 0);
        due(x.digest(), want);
        due(x.digest(), want);
        x.feeds(1, 2);
        // Line 1 carries 4/3 of 1 and is overloaded; alone it carries 2, and line 0 does not mind.
        want = hash(2, 1, 0, 3, 3, 1, 8, 4, 0, 2, 0, -2, 2,
            0, 1, 1, 30, 1, 0, -2, 3, 0, 1, 2, 1, 1, 0, -4, 3, 2, 1, 5, 1, 0, 0, 0, 1,
            1, 2, 3, 2, 0, 1, 1);
        due(x.digest(), want);
    }
}
