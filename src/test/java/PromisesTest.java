/** Each promise of the document by hand: ordinary inputs, the edges that it names, and wrong inputs. */
public final class PromisesTest {
    private static final double INF = Double.POSITIVE_INFINITY;
    private static final double NAN = Double.NaN;
    private static final double MAX = Double.MAX_VALUE;
    private static final double MIN = Double.MIN_VALUE;
    private static final int UNKNOWN = -1;
    private static final int OUTSIDE = -2;
    private static final int STATE = -3;
    private static final int FULL = -4;
    private static final int NONE = -5;

    private static int wrong = 0;
    private static int checks = 0;

    public static void main(String[] args) {
        newObject();
        draw();
        node();
        role();
        begin();
        run();
        splitting();
        tightBoxes();
        kinds();
        side();
        weight();
        enclosedSums();
        enclosedProducts();
        enclosedSigns();
        enclosedRoots();
        enclosedCasts();
        value();
        within();
        where();
        mass();
        odds();
        share();
        count();
        clear();
        System.out.println(wrong == 0 ? checks + " answers are as promised" : wrong + " of " + checks + " are wrong");
        if (wrong != 0) {
            System.exit(1);
        }
    }

    private static long b(double x) {
        return Double.doubleToLongBits(x);
    }

    private static double up(double x) {
        return Math.nextUp(x);
    }

    private static double down(double x) {
        return Math.nextDown(x);
    }

    private static void due(String what, long got, long want) {
        checks++;
        if (got != want) {
            wrong++;
            System.out.println(what + ": answered " + got + ", due is " + want);
        }
    }

    private static void dueNumber(String what, long got, double want) {
        checks++;
        if (got != b(want)) {
            wrong++;
            System.out.println(what + ": answered " + Double.longBitsToDouble(got) + ", due is " + want);
        }
    }

    private static void sideThrows(String what, BoxIntegrals x, int box, int draw, int end) {
        int threw = 0;
        try {
            x.side(box, draw, end);
        } catch (ArrayIndexOutOfBoundsException e) {
            threw = 1;
        }
        due("side throws: " + what, threw, 1);
    }

    private static void shareThrows(String what, BoxIntegrals x, int kind) {
        int threw = 0;
        try {
            x.share(kind);
        } catch (ArithmeticException e) {
            threw = 1;
        }
        due("share throws: " + what, threw, 1);
    }

    /** Draws of these spans, lo and hi by turns, and a node for each of them. */
    private static BoxIntegrals drawn(double... spans) {
        BoxIntegrals x = new BoxIntegrals();
        for (int i = 0; i + 1 < spans.length; i += 2) {
            x.draw(b(spans[i]), b(spans[i + 1]));
        }
        for (int i = 0; i < spans.length / 2; i++) {
            x.node(0, i, 0, 0L);
        }
        return x;
    }

    private static int number(BoxIntegrals x, double n) {
        return x.node(1, 0, 0, b(n));
    }

    private static void ends(String what, BoxIntegrals x, int box, int node, double low, double high) {
        dueNumber("low end of " + what, x.enclosed(box, node, 0), low);
        dueNumber("high end of " + what, x.enclosed(box, node, 1), high);
    }

    private static void newObject() {
        BoxIntegrals x = new BoxIntegrals();
        for (int what = 0; what <= 4; what++) {
            due("new count " + what, x.count(what), 0);
        }
        due("new boxes", x.boxes(), 0);
        due("new begin", x.begin(), STATE);
        due("new run", x.run(0), STATE);
        due("new kind", x.kind(0), UNKNOWN);
        due("new value", x.value(0, 0L, 0L, 0L), 0);
        due("new within", x.within(0, 0, 0L, 0L, 0L), UNKNOWN);
        due("new where", x.where(0L, 0L, 0L), NONE);
        due("new mass", x.mass(3, 1), 0);
        due("new odds", x.odds(1), 0);
        due("new share", x.share(3), STATE);
        due("new role 2", x.role(2, NONE), OUTSIDE);
        due("new role 0", x.role(0, NONE), NONE);
        due("new clear", x.clear(), 0);
        sideThrows("new", x, 0, 0, 0);
        BoxIntegrals other = drawn(0.0, 1.0);
        due("objects are apart", x.count(0) + other.count(0), 1);
    }

    private static void draw() {
        BoxIntegrals x = new BoxIntegrals();
        due("draw lo is hi", x.draw(b(1.0), b(1.0)), OUTSIDE);
        due("draw lo above hi", x.draw(b(2.0), b(1.0)), OUTSIDE);
        due("draw both zeros", x.draw(b(-0.0), b(0.0)), OUTSIDE);
        due("draw NaN lo", x.draw(b(NAN), b(1.0)), OUTSIDE);
        due("draw NaN hi", x.draw(b(0.0), 0x7FF0000000000001L), OUTSIDE);
        due("draw infinite lo", x.draw(b(-INF), b(1.0)), OUTSIDE);
        due("draw infinite hi", x.draw(b(0.0), b(INF)), OUTSIDE);
        due("refused draws do not count", x.count(0), 0);
        due("draw 0", x.draw(b(-MAX), b(MAX)), 0);
        due("draw 1", x.draw(b(-0.0), b(MIN)), 1);
        x.node(0, 0, 0, 0L);
        x.role(0, 0);
        x.role(1, 0);
        x.role(2, 0);
        x.role(3, 0);
        x.begin();
        due("a refused draw leaves the run", x.draw(0L, 0L) + 100 * x.boxes(), OUTSIDE + 100);
        due("a refused draw leaves the role", x.role(0, 0), 0);
        x.begin();
        due("draw 2", x.draw(b(-3.5), b(-2.5)), 2);
        due("a draw ends the run", x.boxes(), 0);
        for (int role = 0; role < 5; role++) {
            due("a draw takes role " + role, x.role(role, NONE), NONE);
        }
        x.begin();
        due("draw 3", x.draw(b(0.0), b(1.0)), FULL);
        due("outside is ahead of full", x.draw(b(1.0), b(0.0)), OUTSIDE);
        due("a full draw leaves the run", x.boxes(), 1);
        dueNumber("lo keeps its sign", x.side(0, 1, 0), -0.0);
    }

    private static void node() {
        BoxIntegrals x = new BoxIntegrals();
        due("node of no draw", x.node(0, 0, 0, 0L), UNKNOWN);
        due("node of no node", x.node(8, 0, 0, 0L), UNKNOWN);
        due("node kind -1", x.node(-1, 0, 0, 0L), OUTSIDE);
        due("node kind 17", x.node(17, -9, -9, 0L), OUTSIDE);
        due("node number looks at its bits alone", x.node(1, -7, 99, b(2.0)), 0);
        x.draw(b(0.0), b(1.0));
        due("node draw looks at a alone", x.node(0, 0, -7, 5L), 1);
        due("node draw 1", x.node(0, 1, 0, 0L), UNKNOWN);
        due("node draw -1", x.node(0, -1, 0, 0L), UNKNOWN);
        for (int kind = 2; kind <= 16; kind++) {
            int size = x.count(1);
            boolean two = kind <= 7;
            due("a is itself, kind " + kind, x.node(kind, size, 0, 0L), UNKNOWN);
            due("a is -1, kind " + kind, x.node(kind, -1, 0, 0L), UNKNOWN);
            due("b is not there, kind " + kind, x.node(kind, 0, size + 1, 0L), two ? UNKNOWN : size);
            due("b is NONE, kind " + kind, x.node(kind, 0, NONE, 0L), two ? UNKNOWN : size + 1);
        }
        x.begin();
        while (x.count(1) < 32) {
            x.node(8, x.count(1) - 1, Integer.MIN_VALUE, -1L);
        }
        due("a node leaves the run", x.boxes(), 1);
        due("node 32", x.node(1, 0, 0, 0L), FULL);
        due("unknown is ahead of full", x.node(2, 0, 32, 0L), UNKNOWN);
        due("kind is ahead of unknown and full", x.node(99, 77, 77, 0L), OUTSIDE);
        due("nodes stay 32", x.count(1), 32);
        dueNumber("the last node", x.value(31, b(0.25), 0L, 0L), Double.longBitsToDouble(x.value(30, b(0.25), 0L, 0L)));
    }

    private static void role() {
        BoxIntegrals x = drawn(0.0, 1.0, 0.0, 2.0);
        x.begin();
        due("role -1", x.role(-1, 0), OUTSIDE);
        due("role of no draw", x.role(4, 0), OUTSIDE);
        due("role of a draw that can't be", x.role(Integer.MAX_VALUE, NONE), OUTSIDE);
        due("role outside is ahead of unknown", x.role(4, 99), OUTSIDE);
        due("role of no node", x.role(0, 2), UNKNOWN);
        due("role of node -1", x.role(0, -1), UNKNOWN);
        due("role of node -6", x.role(1, -6), UNKNOWN);
        due("refused roles leave the run", x.boxes(), 1);
        for (int role = 0; role < 4; role++) {
            due("role " + role + " was none", x.role(role, 1), NONE);
            due("role " + role + " was 1", x.role(role, 0), 1);
            due("role " + role + " was 0", x.role(role, NONE), 0);
            due("role " + role + " was none again", x.role(role, NONE), NONE);
        }
        due("a role ends the run", x.boxes(), 0);
        x.begin();
        due("also one that stays", x.role(0, NONE) + 100 * x.boxes(), NONE);
    }

    private static void begin() {
        BoxIntegrals x = drawn(0.0, 1.0);
        due("begin with one", x.begin(), 1);
        due("begin's boxes", x.boxes(), 1);
        dueNumber("begin's lo", x.side(0, 0, 0), 0.0);
        dueNumber("begin's hi", x.side(0, 0, 1), 1.0);
        x.draw(b(-2.0), b(3.0));
        x.draw(b(0.0), b(1.0));
        due("begin with three", x.begin(), 3);
        x.node(3, 0, 0, 0L);
        x.role(1, 1);
        x.begin();
        x.run(7);
        due("run's boxes", x.boxes(), 8);
        due("begin anew", x.begin(), 3);
        due("anew one box", x.boxes(), 1);
        due("anew no steps", x.count(3), 0);
        dueNumber("anew the span", x.side(0, 1, 1), 3.0);
    }

    private static void run() {
        BoxIntegrals x = drawn(0.0, 1.0);
        due("run without a run", x.run(1), STATE);
        due("outside is ahead of state", x.run(-1), OUTSIDE);
        due("100 is outside", x.run(100), OUTSIDE);
        x.begin();
        due("nothing is open", x.run(99), 0);
        x.node(3, 0, 0, 0L);
        x.role(0, 1);
        x.begin();
        due("run 0", x.run(0), 0);
        due("run 60", x.run(60), 60);
        due("outside changes nothing", x.run(100) + 1000 * x.boxes(), OUTSIDE + 61000);
        due("no more than 100 boxes", x.run(99), 39);
        due("100 boxes", x.boxes(), 100);
        due("99 steps", x.count(3), 99);
        due("full", x.run(5), FULL);
        due("full also at 0", x.run(0), FULL);
        due("outside is ahead of full", x.run(100), OUTSIDE);
        due("still 100", x.boxes(), 100);
    }

    private static void splitting() {
        BoxIntegrals x = drawn(0.0, 1.0, 0.0, 2.0, -1.0, 1.0);
        x.node(3, 0, 0, 0L);
        x.role(1, 3);
        x.begin();
        x.run(1);
        dueNumber("the widest, the least of several, is split", x.side(0, 1, 1), 1.0);
        dueNumber("the new box has the upper half", x.side(1, 1, 0), 1.0);
        dueNumber("others stay", x.side(1, 2, 0), -1.0);
        x.run(1);
        dueNumber("the least box of several is next", x.side(0, 2, 1), 0.0);
        dueNumber("its other half", x.side(2, 2, 0), 0.0);
        dueNumber("of which other sides stay", x.side(2, 1, 1), 1.0);
        x.run(1);
        dueNumber("then the heavier one", x.side(1, 2, 1), 0.0);
        dueNumber("its other half", x.side(3, 1, 0), 1.0);

        BoxIntegrals y = drawn(0.0, 1.0);
        y.node(3, 0, 0, 0L);
        y.role(1, 1);
        y.role(2, 0);
        y.begin();
        y.run(2);
        dueNumber("by weight, not by width", y.side(1, 0, 1), 0.75);
        due("the lighter one stays", y.side(0, 0, 1), b(0.5));

        BoxIntegrals z = drawn(0.0, 1.0);
        number(z, 0.5);
        z.node(3, 0, 1, 0L);
        z.role(1, 2);
        z.begin();
        z.run(2);
        due("both halves have their own kind", z.kind(0) + 10 * z.kind(1) + 100 * z.kind(2), 2 + 30 + 300);
    }

    private static void tightBoxes() {
        BoxIntegrals x = drawn(1.0, Math.nextUp(1.0));
        x.node(3, 0, 0, 0L);
        x.role(0, 1);
        x.begin();
        due("a tight box is open", x.kind(0), 3);
        due("a tight box counts", x.count(4), 1);
        due("a tight box is not split", x.run(9), 0);
        BoxIntegrals y = drawn(-MAX, MAX, 0.0, 1.0);
        y.node(3, 0, 0, 0L);
        y.role(0, 2);
        y.begin();
        due("a middle without end is tight", y.run(9) + 10 * y.count(4), 10);
        BoxIntegrals z = drawn(-0.0, MIN);
        z.node(3, 0, 0, 0L);
        z.role(0, 1);
        z.begin();
        due("the least span is tight", z.run(1), 0);
        BoxIntegrals w = drawn(1.0, 1.0 + 4 * Math.ulp(1.0));
        w.node(3, 0, 0, 0L);
        w.role(0, 1);
        w.begin();
        due("split until all are tight", w.run(99), 3);
        due("all of them tight", w.count(4), 4);
        w.role(0, NONE);
        w.begin();
        due("a tight box that is not open does not count", w.count(4), 0);
    }

    private static void kinds() {
        BoxIntegrals x = drawn(1.0, 2.0);
        int yes = 0;
        int zero = number(x, 0.0);
        int open = x.node(3, 0, 0, 0L);
        int minusZero = number(x, -0.0);
        int least = number(x, MIN);
        int[][] table = {
            {NONE, NONE, 1}, {yes, NONE, 1}, {zero, NONE, 0}, {open, NONE, 3},
            {NONE, yes, 1}, {NONE, zero, 2}, {NONE, open, 3},
            {yes, yes, 1}, {yes, zero, 2}, {yes, open, 3},
            {zero, yes, 0}, {zero, zero, 0}, {zero, open, 0},
            {open, yes, 3}, {open, zero, 3}, {open, open, 3},
            {minusZero, NONE, 0}, {least, minusZero, 2}, {least, least, 1}};
        for (int[] row : table) {
            x.role(0, row[0]);
            x.role(1, row[1]);
            x.begin();
            due("kind of condition " + row[0] + ", question " + row[1], x.kind(0), row[2]);
        }
        due("kind of box 1", x.kind(1), UNKNOWN);
        due("kind of box -1", x.kind(-1), UNKNOWN);
    }

    private static void side() {
        BoxIntegrals x = drawn(-1.5, 2.5, 3.0, 4.0);
        sideThrows("no run", x, 0, 0, 0);
        x.begin();
        dueNumber("side 0 lo", x.side(0, 0, 0), -1.5);
        dueNumber("side 0 hi", x.side(0, 0, 1), 2.5);
        dueNumber("side 1 lo", x.side(0, 1, 0), 3.0);
        dueNumber("side 1 hi", x.side(0, 1, 1), 4.0);
        sideThrows("box 1", x, 1, 0, 0);
        sideThrows("box -1", x, -1, 0, 0);
        sideThrows("draw 2", x, 0, 2, 0);
        sideThrows("draw -1", x, 0, -1, 0);
        sideThrows("end 2", x, 0, 0, 2);
        sideThrows("end -1", x, 0, 0, -1);
        sideThrows("all far out", x, Integer.MAX_VALUE, Integer.MIN_VALUE, Integer.MAX_VALUE);
        due("nothing changed", x.boxes(), 1);
    }

    private static void weight() {
        BoxIntegrals x = drawn(0.0, 2.0, 1.0, 4.0);
        due("weight without a run", x.weight(0, 1), 0);
        x.begin();
        dueNumber("low weight", x.weight(0, 0), down(down(down(2.0)) * down(3.0)));
        dueNumber("high weight", x.weight(0, 1), up(up(up(2.0)) * up(3.0)));
        due("weight of box 1", x.weight(1, 0), 0);
        due("weight of box -1", x.weight(-1, 0), 0);
        due("weight's end 2", x.weight(0, 2), 0);
        due("weight's end -1", x.weight(0, -1), 0);
        x.role(3, 1);
        x.begin();
        dueNumber("low weight by density", x.weight(0, 0), down(down(down(down(2.0)) * down(3.0)) * 1.0));
        dueNumber("high weight by density", x.weight(0, 1), up(up(up(up(2.0)) * up(3.0)) * 4.0));
        int minus = number(x, -3.0);
        x.role(2, minus);
        x.begin();
        dueNumber("low weight is not below 0", x.weight(0, 0), 0.0);
        double first = up(up(up(2.0)) * 0.0);
        dueNumber("high weight of a density below 0", x.weight(0, 1), up(up(first * up(3.0)) * 4.0));
        int infinite = number(x, INF);
        x.role(2, infinite);
        x.role(3, minus);
        x.begin();
        dueNumber("low weight by one without end", x.weight(0, 0), 0.0);
        dueNumber("no number becomes infinite", x.weight(0, 1), INF);
        x.role(2, minus);
        x.role(3, infinite);
        x.begin();
        dueNumber("no number becomes 0.0", x.weight(0, 0), 0.0);
        dueNumber("infinite", x.weight(0, 1), INF);
        x.role(2, infinite);
        x.role(3, NONE);
        x.begin();
        dueNumber("down of infinite is finite", x.weight(0, 0), down(MAX * 1.0 * 3.0));
    }

    private static void enclosedSums() {
        BoxIntegrals x = drawn(-1.0, 2.0, 0.5, 4.0);
        int sum = x.node(2, 0, 1, 0L);
        int difference = x.node(3, 0, 1, 0L);
        int nan = x.node(1, 0, 0, -1L);
        int infinite = number(x, INF);
        int minusInfinite = number(x, -INF);
        int max = number(x, MAX);
        due("enclosed without a run", x.enclosed(0, 0, 0), 0);
        x.begin();
        ends("a draw", x, 0, 0, -1.0, 2.0);
        ends("a sum", x, 0, sum, down(-0.5), up(6.0));
        ends("a difference", x, 0, difference, down(-5.0), up(1.5));
        ends("no number", x, 0, nan, -INF, INF);
        ends("a number without end", x, 0, infinite, INF, INF);
        ends("infinite sum", x, 0, x.node(2, infinite, 0, 0L), MAX, INF);
        ends("infinite less infinite", x, 0, x.node(3, infinite, infinite, 0L), -INF, INF);
        ends("infinite and minus infinite", x, 0, x.node(2, infinite, minusInfinite, 0L), -INF, INF);
        ends("one end no number", x, 0, x.node(2, nan, infinite, 0L), -INF, INF);
        ends("minus infinite", x, 0, x.node(2, minusInfinite, 0, 0L), -INF, -MAX);
        ends("beyond the greatest", x, 0, x.node(2, max, max, 0L), MAX, INF);
        due("enclosed box 1", x.enclosed(1, sum, 0), 0);
        due("enclosed box -1", x.enclosed(-1, sum, 0), 0);
        due("enclosed no node", x.enclosed(0, x.count(1), 0), 0);
        due("enclosed node -1", x.enclosed(0, -1, 0), 0);
        due("enclosed end 2", x.enclosed(0, sum, 2), 0);
        due("enclosed end -1", x.enclosed(0, sum, -1), 0);
    }

    private static void enclosedProducts() {
        BoxIntegrals x = drawn(-3.0, 2.0, 0.5, 4.0, 0.0, 1.0);
        int minus = x.node(12, 1, 0, 0L);
        int infinite = number(x, INF);
        int max = number(x, MAX);
        x.begin();
        ends("a product", x, 0, x.node(4, 0, 1, 0L), down(-12.0), up(8.0));
        ends("a product of minus", x, 0, x.node(4, 0, minus, 0L), down(-8.0), up(12.0));
        ends("a product with itself", x, 0, x.node(4, 0, 0, 0L), down(-6.0), up(9.0));
        ends("a product with 0", x, 0, x.node(4, 2, 1, 0L), -MIN, up(4.0));
        ends("infinite by 0", x, 0, x.node(4, 2, infinite, 0L), -INF, INF);
        ends("infinite by above 0", x, 0, x.node(4, 1, infinite, 0L), MAX, INF);
        ends("beyond the greatest", x, 0, x.node(4, max, max, 0L), MAX, INF);
        ends("a quotient", x, 0, x.node(5, 0, 1, 0L), down(-6.0), up(4.0));
        ends("a quotient by minus", x, 0, x.node(5, 0, minus, 0L), down(-4.0), up(6.0));
        ends("a quotient by 0 inside", x, 0, x.node(5, 1, 0, 0L), -INF, INF);
        ends("a quotient by 0 at an end", x, 0, x.node(5, 1, 2, 0L), -INF, INF);
        int notAbove = x.node(12, 2, 0, 0L);
        ends("a quotient by -0.0 at an end", x, 0, x.node(5, 1, notAbove, 0L), -INF, INF);
        ends("infinite by infinite", x, 0, x.node(5, infinite, infinite, 0L), -INF, INF);
        ends("by infinite", x, 0, x.node(5, 1, infinite, 0L), -MIN, MIN);
    }

    private static void enclosedSigns() {
        BoxIntegrals x = drawn(-3.0, 2.0, 0.5, 4.0, -2.0, -1.0);
        int nan = number(x, NAN);
        int zero = number(x, 0.0);
        int minusZero = number(x, -0.0);
        x.begin();
        ends("least", x, 0, x.node(6, 0, 1, 0L), -3.0, 2.0);
        ends("greatest", x, 0, x.node(7, 0, 1, 0L), 0.5, 4.0);
        ends("least of zeros", x, 0, x.node(6, zero, minusZero, 0L), -0.0, -0.0);
        ends("greatest of zeros", x, 0, x.node(7, minusZero, zero, 0L), 0.0, 0.0);
        ends("greatest with no number", x, 0, x.node(7, nan, 0, 0L), -3.0, INF);
        ends("magnitude round 0", x, 0, x.node(8, 0, 0, 0L), 0.0, 3.0);
        ends("magnitude above 0", x, 0, x.node(8, 1, 0, 0L), 0.5, 4.0);
        ends("magnitude below 0", x, 0, x.node(8, 2, 0, 0L), 1.0, 2.0);
        ends("magnitude of the whole line", x, 0, x.node(8, nan, 0, 0L), 0.0, INF);
        ends("magnitude of -0.0", x, 0, x.node(8, minusZero, 0, 0L), -0.0, -0.0);
        ends("minus", x, 0, x.node(12, 0, 0, 0L), -2.0, 3.0);
        ends("minus zero", x, 0, x.node(12, zero, 0, 0L), -0.0, -0.0);
        ends("sign", x, 0, x.node(14, 0, 0, 0L), -1.0, 1.0);
        ends("sign of -0.0", x, 0, x.node(14, minusZero, 0, 0L), -0.0, -0.0);
        ends("sign above 0", x, 0, x.node(14, 1, 0, 0L), 1.0, 1.0);
        BoxIntegrals y = drawn(-1.0, 0.0, -1.0, -0.0);
        y.begin();
        ends("magnitude up to 0.0", y, 0, y.node(8, 0, 0, 0L), -0.0, 1.0);
        ends("magnitude up to -0.0", y, 0, y.node(8, 1, 0, 0L), 0.0, 1.0);
    }

    private static void enclosedRoots() {
        BoxIntegrals x = drawn(0.0, 2.0, 4.0, 9.0, -3.0, 2.0);
        int nan = number(x, NAN);
        int minusZero = number(x, -0.0);
        int infinite = number(x, INF);
        int max = number(x, MAX);
        x.begin();
        ends("root from 0", x, 0, x.node(9, 0, 0, 0L), 0.0, up(Math.sqrt(2.0)));
        ends("root", x, 0, x.node(9, 1, 0, 0L), down(2.0), up(3.0));
        ends("root from below 0", x, 0, x.node(9, 2, 0, 0L), -INF, INF);
        ends("root of the whole line", x, 0, x.node(9, nan, 0, 0L), -INF, INF);
        ends("root of -0.0", x, 0, x.node(9, minusZero, 0, 0L), 0.0, MIN);
        ends("root of infinite", x, 0, x.node(9, infinite, 0, 0L), MAX, INF);
        ends("square from 0", x, 0, x.node(10, 0, 0, 0L), 0.0, up(4.0));
        ends("square", x, 0, x.node(10, 1, 0, 0L), down(16.0), up(81.0));
        ends("square round 0", x, 0, x.node(10, 2, 0, 0L), 0.0, up(9.0));
        ends("square of the whole line", x, 0, x.node(10, nan, 0, 0L), 0.0, INF);
        ends("square of the greatest", x, 0, x.node(10, max, 0, 0L), MAX, INF);
        ends("square of -0.0", x, 0, x.node(10, minusZero, 0, 0L), 0.0, MIN);
    }

    private static void enclosedCasts() {
        BoxIntegrals x = drawn(-2.5, 2.5, -1e10, 1e10, -1e300, 1e300);
        int tenth = number(x, 0.1);
        int nan = number(x, NAN);
        x.begin();
        ends("floor", x, 0, x.node(11, 0, 0, 0L), -3.0, 2.0);
        ends("float", x, 0, x.node(13, tenth, 0, 0L), (double) 0.1f, (double) 0.1f);
        ends("float beyond", x, 0, x.node(13, 2, 0, 0L), -INF, INF);
        ends("int", x, 0, x.node(15, 0, 0, 0L), -2.0, 2.0);
        ends("int beyond", x, 0, x.node(15, 1, 0, 0L), -2147483648.0, 2147483647.0);
        ends("long", x, 0, x.node(16, 1, 0, 0L), -1e10, 1e10);
        ends("long beyond", x, 0, x.node(16, 2, 0, 0L), -0x1p63, 0x1p63);
        ends("int of the whole line", x, 0, x.node(15, nan, 0, 0L), -2147483648.0, 2147483647.0);
        ends("floor of the whole line", x, 0, x.node(11, nan, 0, 0L), -INF, INF);
    }

    private static void value() {
        BoxIntegrals x = drawn(0.0, 1.0, 0.0, 1.0);
        double[][] rows = {
            {2, 1.5, 2.25, 3.75}, {3, 1.5, 2.25, -0.75}, {4, 1.5, -2.0, -3.0}, {4, 0.0, INF, NAN}, {5, 1.0, 3.0, 1.0 / 3.0},
            {5, 1.0, -0.0, -INF}, {5, 0.0, 0.0, NAN}, {6, -0.0, 0.0, -0.0}, {6, 1.0, NAN, NAN}, {7, -0.0, 0.0, 0.0},
            {8, -0.0, 0.0, 0.0}, {9, 2.0, 0.0, Math.sqrt(2.0)}, {9, -1.0, 0.0, NAN}, {9, -0.0, 0.0, -0.0},
            {10, -1.1, 0.0, -1.1 * -1.1}, {11, -0.5, 0.0, -1.0}, {11, -0.0, 0.0, -0.0}, {12, 0.0, 0.0, -0.0},
            {13, 0.1, 0.0, (double) 0.1f}, {13, 1e-46, 0.0, 0.0}, {13, -1e39, 0.0, -INF}, {14, -3.0, 0.0, -1.0},
            {14, NAN, 0.0, NAN}, {15, -1.9, 0.0, -1.0}, {15, -0.9, 0.0, 0.0}, {15, NAN, 0.0, 0.0}, {15, 3e9, 0.0, 2147483647.0},
            {16, 3e9 + 0.5, 0.0, 3e9}, {16, -INF, 0.0, -0x1p63}, {16, NAN, 0.0, 0.0}, {2, INF, -INF, NAN}, {3, MIN, MIN, 0.0}};
        BoxIntegrals y = drawn(0.0, 1.0, 0.0, 1.0);
        for (int kind = 2; kind <= 16; kind++) {
            y.node(kind, 0, 1, 0L);
        }
        for (double[] row : rows) {
            dueNumber("kind " + (int) row[0] + " of " + row[1] + ", " + row[2], y.value((int) row[0], b(row[1]), b(row[2]), -1L), row[3]);
        }
        dueNumber("far outside the span", x.value(1, 0L, b(1e300), 0L), 1e300);
        due("every NaN is told by the same bits", x.value(0, -1L, 0L, 0L), 0x7FF8000000000000L);
        due("value of no node", x.value(2, 0L, 0L, 0L), 0);
        due("value of node -1", x.value(-1, b(1.0), 0L, 0L), 0);
        int number = x.node(1, 0, 0, 0xFFF0000000000001L);
        due("a number that is none", x.value(number, 0L, 0L, 0L), 0x7FF8000000000000L);
        due("minus what is none", x.value(x.node(12, number, 0, 0L), 0L, 0L, 0L), 0x7FF8000000000000L);
        due("value needs no run", x.boxes(), 0);
    }

    private static void within() {
        BoxIntegrals x = drawn(-8.0, -4.0, 0.0, 1.0);
        int nan = number(x, NAN);
        int lesser = x.node(6, 0, nan, 0L);
        int cast = x.node(15, lesser, 0, 0L);
        due("within without a run", x.within(0, 0, b(-5.0), b(0.5), 0L), UNKNOWN);
        x.begin();
        due("inside", x.within(0, 0, b(-5.0), b(0.5), -1L), 2);
        due("at lo", x.within(0, 0, b(-8.0), b(-0.0), 0L), 2);
        due("at hi", x.within(0, 0, b(-4.0), b(1.0), 0L), 2);
        due("below lo", x.within(0, 0, b(down(-8.0)), b(0.5), 0L), 0);
        due("above hi", x.within(0, 0, b(-5.0), b(up(1.0)), 0L), 0);
        due("a point of no number", x.within(0, 0, b(NAN), b(0.5), 0L), 0);
        due("a second of no number", x.within(0, 0, b(-5.0), -1L, 0L), 0);
        due("a value that is no number", x.within(0, lesser, b(-5.0), b(0.5), 0L), 2);
        due("a value outside", x.within(0, cast, b(-5.0), b(0.5), 0L), 1);
        due("box 1", x.within(1, 0, 0L, 0L, 0L), UNKNOWN);
        due("box -1", x.within(-1, 0, 0L, 0L, 0L), UNKNOWN);
        due("no node", x.within(0, 5, 0L, 0L, 0L), UNKNOWN);
        due("node -1", x.within(0, -1, 0L, 0L, 0L), UNKNOWN);
    }

    private static void where() {
        BoxIntegrals x = drawn(0.0, 1.0);
        x.node(3, 0, 0, 0L);
        x.role(0, 1);
        due("where without a run", x.where(b(0.5), 0L, 0L), NONE);
        x.begin();
        x.run(3);
        due("first of four", x.where(b(0.1), -1L, -1L), 0);
        due("an edge is in the first of two", x.where(b(0.5), 0L, 0L), 1);
        due("second of four", x.where(b(0.3), 0L, 0L), 2);
        due("last", x.where(b(1.0), 0L, 0L), 3);
        due("minus zero is zero", x.where(b(-0.0), 0L, 0L), 0);
        due("outside", x.where(b(up(1.0)), 0L, 0L), NONE);
        due("below", x.where(b(-MIN), 0L, 0L), NONE);
        due("no number", x.where(b(NAN), 0L, 0L), NONE);
        x.draw(b(5.0), b(6.0));
        x.draw(b(7.0), b(8.0));
        x.begin();
        due("all three", x.where(b(0.5), b(5.5), b(7.5)), 0);
        due("the third is not in", x.where(b(0.5), b(5.5), b(6.5)), NONE);
    }

    private static void mass() {
        BoxIntegrals x = drawn(0.0, 1.0);
        number(x, 0.5);
        x.node(3, 0, 1, 0L);
        x.role(1, 2);
        due("mass without a run", x.mass(1, 1), 0);
        x.begin();
        x.run(3);
        for (int kind = 0; kind <= 3; kind++) {
            double low = 0.0;
            double high = 0.0;
            for (int box = 0; box < x.boxes(); box++) {
                if (x.kind(box) == kind) {
                    low = Math.max(0.0, down(low + Double.longBitsToDouble(x.weight(box, 0))));
                    high = up(high + Double.longBitsToDouble(x.weight(box, 1)));
                }
            }
            dueNumber("low mass of " + kind, x.mass(kind, 0), low);
            dueNumber("high mass of " + kind, x.mass(kind, 1), high);
        }
        due("some yes", x.mass(1, 0) == 0 ? 0 : 1, 1);
        due("mass of kind 4", x.mass(4, 1), 0);
        due("mass of kind -1", x.mass(-1, 1), 0);
        due("mass end 2", x.mass(3, 2), 0);
        due("mass end -1", x.mass(3, -1), 0);
        x.role(2, number(x, 0.0));
        x.begin();
        dueNumber("no low mass below 0", x.mass(3, 0), 0.0);
        dueNumber("the least high mass", x.mass(3, 1), 2 * MIN);
    }

    private static void odds() {
        BoxIntegrals x = drawn(0.0, 1.0);
        due("odds without a run", x.odds(1), 0);
        x.begin();
        double low = down(down(down(1.0)));
        dueNumber("low odds of yes alone", x.odds(0), down(low / up(up(low))));
        dueNumber("high odds of yes alone", x.odds(1), 1.0);
        due("odds end 2", x.odds(2), 0);
        due("odds end -1", x.odds(-1), 0);
        int zero = number(x, 0.0);
        x.role(1, zero);
        x.begin();
        dueNumber("low odds of no alone", x.odds(0), 0.0);
        dueNumber("high odds of no alone", x.odds(1), up(MIN / down(MIN + low)));
        x.role(0, zero);
        x.begin();
        dueNumber("low odds of out alone", x.odds(0), 0.0);
        dueNumber("high odds of out alone", x.odds(1), 1.0);
        x.role(0, NONE);
        int half = number(x, 0.25);
        x.role(1, x.node(3, 0, half, 0L));
        x.begin();
        x.run(99);
        double at = Double.longBitsToDouble(x.odds(0));
        double to = Double.longBitsToDouble(x.odds(1));
        due("the odds hold 0.75", at > 0.74 && at < 0.75 && to > 0.75 && to < 0.76 ? 1 : 0, 1);
        double y = Double.longBitsToDouble(x.mass(1, 0));
        double n = Double.longBitsToDouble(x.mass(2, 1));
        double o = Double.longBitsToDouble(x.mass(3, 1));
        dueNumber("low odds by masses", x.odds(0), down(y / up(up(y + n) + o)));
        double some = up(Double.longBitsToDouble(x.mass(1, 1)) + o);
        dueNumber("high odds by masses", x.odds(1), up(some / down(some + Double.longBitsToDouble(x.mass(2, 0)))));
    }

    private static void share() {
        BoxIntegrals x = drawn(0.0, 1.0);
        due("share without a run", x.share(0), STATE);
        due("outside is ahead of state", x.share(4), OUTSIDE);
        due("share of kind -1", x.share(-1), OUTSIDE);
        x.begin();
        shareThrows("no open one", x, 1);
        shareThrows("also of the open ones", x, 3);
        due("outside is ahead of that", x.share(4), OUTSIDE);
        number(x, 0.5);
        x.role(1, x.node(3, 0, 1, 0L));
        x.begin();
        due("one of one", x.share(3), 1);
        due("none of one", x.share(1), 0);
        x.run(10);
        int[] seen = new int[4];
        for (int box = 0; box < x.boxes(); box++) {
            seen[x.kind(box)]++;
        }
        for (int kind = 0; kind <= 3; kind++) {
            due("share of " + kind, x.share(kind), seen[kind] / seen[3]);
        }
        due("one of these is cut", (seen[1] + seen[2]) % seen[3], 1);
    }

    private static void count() {
        BoxIntegrals x = drawn(0.0, 1.0, 0.0, 1.0);
        x.role(0, x.node(3, 0, 0, 0L));
        x.begin();
        x.run(5);
        due("draws", x.count(0), 2);
        due("nodes", x.count(1), 3);
        due("boxes", x.count(2), 6);
        due("steps", x.count(3), 5);
        due("tight ones", x.count(4), 0);
        due("count 5", x.count(5), OUTSIDE);
        due("count -1", x.count(-1), OUTSIDE);
        x.run(3);
        due("steps of all runs of the run", x.count(3), 8);
        x.role(0, NONE);
        due("steps without a run", x.count(3), 0);
        due("boxes without a run", x.count(2), 0);
    }

    private static void clear() {
        BoxIntegrals x = drawn(0.0, 1.0, 0.0, 1.0);
        x.role(0, x.node(3, 0, 0, 0L));
        x.role(3, 1);
        x.begin();
        x.run(5);
        due("clear", x.clear(), 3);
        for (int what = 0; what <= 4; what++) {
            due("cleared count " + what, x.count(what), 0);
        }
        due("clear again", x.clear(), 0);
        due("cleared begin", x.begin(), STATE);
        due("cleared node", x.value(0, b(1.0), 0L, 0L), 0);
        due("cleared draw", x.node(0, 0, 0, 0L), UNKNOWN);
        due("a number goes without draws", x.node(1, 0, 0, b(7.0)), 0);
        due("cleared condition", x.role(0, NONE), NONE);
        due("draws from 0", x.draw(b(2.0), b(3.0)), 0);
        due("cleared density", x.role(2, NONE), NONE);
        due("begin after clear", x.begin(), 1);
        dueNumber("the new span", x.side(0, 0, 1), 3.0);
    }
}
