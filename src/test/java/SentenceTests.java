import java.lang.annotation.ElementType;
import java.lang.annotation.Retention;
import java.lang.annotation.RetentionPolicy;
import java.lang.annotation.Target;
import java.lang.reflect.InvocationTargetException;
import java.lang.reflect.Method;
import java.util.ArrayList;
import java.util.Comparator;
import java.util.List;

/**
 * What the tests of the document's sentences share: the mark that tells a test's sentence, what runs
 * them, and their checks. It is no test itself.
 */
abstract class SentenceTests {
    /** The sentence of ../shared/DOC.md, or the part of it, that a test would find broken. */
    @Retention(RetentionPolicy.RUNTIME)
    @Target(ElementType.METHOD)
    @interface Sentence {
        /** The heading that it stands under, as far as the heading's colon. */
        String in();

        String says();
    }

    interface Call {
        long on(BoxIntegrals x);
    }

    interface Scene {
        BoxIntegrals make();
    }

    static final double INF = Double.POSITIVE_INFINITY;
    static final double NAN = Double.NaN;
    static final double MAX = Double.MAX_VALUE;
    static final double MIN = Double.MIN_VALUE;
    static final long NAN_BITS = 0x7FF8000000000000L;
    static final int UNKNOWN = -1;
    static final int OUTSIDE = -2;
    static final int STATE = -3;
    static final int FULL = -4;
    static final int NONE = -5;
    static final int OUT = 0;
    static final int YES = 1;
    static final int NO = 2;
    static final int OPEN = 3;

    /** BITS of numbers that are none, of every shape. */
    static final long[] NANS = {NAN_BITS, 0x7FF0000000000001L, 0x7FFFFFFFFFFFFFFFL, 0xFFF8000000000000L,
        0xFFF0000000000001L, -1L};
    /** Numbers that are never an index, an end, a KIND or a role. */
    static final int[] NOWHERE = {-1, -2, -6, -100, 100, 1000, Integer.MIN_VALUE, Integer.MAX_VALUE};

    private static final int MOST_TOLD = 5;

    private static int checks = 0;
    private static List<String> faults = new ArrayList<>();

    static List<Method> sentencesOf(Class<? extends SentenceTests> tests) {
        List<Method> found = new ArrayList<>();
        for (Method test : tests.getDeclaredMethods()) {
            if (test.isAnnotationPresent(Sentence.class)) {
                found.add(test);
            }
        }
        found.sort(Comparator.comparing(Method::getName));
        return found;
    }

    /** Runs each test, tells the sentences that are broken, and exits with 1 if there is one. */
    static void runAll(Class<? extends SentenceTests> tests) throws IllegalAccessException {
        int broken = 0;
        int kept = 0;
        for (Method test : sentencesOf(tests)) {
            faults = new ArrayList<>();
            int before = checks;
            try {
                test.invoke(null);
            } catch (InvocationTargetException e) {
                faults.add("threw " + e.getCause());
            }
            if (checks == before) {
                faults.add("nothing was checked");
            }
            if (faults.isEmpty()) {
                kept++;
                continue;
            }
            broken++;
            Sentence sentence = test.getAnnotation(Sentence.class);
            System.out.println("BROKEN " + tests.getSimpleName() + "." + test.getName() + ": " + sentence.in() + ": \""
                    + sentence.says() + "\"");
            for (int i = 0; i < faults.size() && i < MOST_TOLD; i++) {
                System.out.println("    " + faults.get(i));
            }
        }
        System.out.println(kept + " sentences kept, " + broken + " broken, " + checks + " checks");
        if (broken != 0 || kept == 0) {
            System.exit(1);
        }
    }

    static long b(double x) {
        return Double.doubleToLongBits(x);
    }

    static double d(long bits) {
        return Double.longBitsToDouble(bits);
    }

    static double up(double x) {
        return Math.nextUp(x);
    }

    static double down(double x) {
        return Math.nextDown(x);
    }

    static void due(String what, long got, long want) {
        checks++;
        if (got != want) {
            faults.add(what + " answered " + got + ", due is " + want);
        }
    }

    static void dueNumber(String what, long got, double want) {
        checks++;
        if (got != b(want)) {
            faults.add(what + " answered " + d(got) + " (" + got + "), due is " + want + " (" + b(want) + ")");
        }
    }

    static void dueText(String what, String got, String want) {
        checks++;
        if (!got.equals(want)) {
            faults.add(what + ": found " + got + ", due is " + want);
        }
    }

    static void dueTrue(String what, boolean found) {
        checks++;
        if (!found) {
            faults.add(what + " is not so");
        }
    }

    /** Exactly this exception, not one of a class below or above it. */
    static void dueThrow(String what, BoxIntegrals x, Call call, Class<? extends RuntimeException> want) {
        checks++;
        try {
            faults.add(what + " answered " + call.on(x) + ", due is " + want.getSimpleName());
        } catch (RuntimeException e) {
            if (e.getClass() != want) {
                faults.add(what + " threw " + e + ", due is " + want.getSimpleName());
            }
        }
    }

    /** The call has its answer, and the object then tells all that a twin tells on which it was not called. */
    static void dueRefusal(String what, Scene scene, Call call, long want) {
        BoxIntegrals x = scene.make();
        due(what, call.on(x), want);
        dueText("after " + what, told(x), told(scene.make()));
    }

    /** All that an object tells, the roles (which end its RUN) last. */
    static String told(BoxIntegrals x) {
        StringBuilder s = new StringBuilder();
        for (int what = 0; what <= 4; what++) {
            s.append(x.count(what)).append(' ');
        }
        int boxes = x.boxes();
        for (int box : new int[] {0, 1, boxes - 1}) {
            s.append("| box ").append(box).append(": ").append(x.kind(box)).append(' ');
            for (int end = 0; end <= 1; end++) {
                s.append(x.weight(box, end)).append(' ');
                for (int i = 0; i < 4; i++) {
                    s.append(x.enclosed(box, i, end)).append(' ');
                }
                for (int draw = 0; draw < x.count(0) && box >= 0 && box < boxes; draw++) {
                    s.append(x.side(box, draw, end)).append(' ');
                }
            }
        }
        for (int end = 0; end <= 1; end++) {
            s.append("| odds ").append(x.odds(end)).append(" masses ");
            for (int kind = 0; kind <= 3; kind++) {
                s.append(x.mass(kind, end)).append(' ');
            }
        }
        for (int node : new int[] {0, 1, 2, x.count(1) - 1}) {
            s.append("| value ").append(x.value(node, b(0.3), b(0.6), b(0.9)));
        }
        for (int role = 0; role <= 4; role++) {
            s.append("| role ").append(x.role(role, NONE));
        }
        return s.toString();
    }

    /** Draws of these spans, lo and hi by turns, and for each of them its NODE. */
    static BoxIntegrals drawn(double... spans) {
        BoxIntegrals x = new BoxIntegrals();
        for (int i = 0; i + 1 < spans.length; i += 2) {
            x.draw(b(spans[i]), b(spans[i + 1]));
        }
        for (int i = 0; i < spans.length / 2; i++) {
            x.node(0, i, 0, 0L);
        }
        return x;
    }

    static int number(BoxIntegrals x, double n) {
        return x.node(1, 0, 0, b(n));
    }

    /** A NODE of which nothing is sure over any BOX: NODE 0 less itself. */
    static int unsure(BoxIntegrals x) {
        return x.node(3, 0, 0, 0L);
    }

    /** A RUN over these spans whose BOXES are all OPEN. */
    static BoxIntegrals openRun(double... spans) {
        BoxIntegrals x = drawn(spans);
        x.role(1, unsure(x));
        x.begin();
        return x;
    }

    /** Three DRAWS, NODES, all roles, and a RUN of three BOXES. */
    static BoxIntegrals busy() {
        BoxIntegrals x = drawn(0.0, 1.0, -1.0, 1.0, 0.5, 1.0);
        int question = x.node(3, 0, 1, 0L);
        x.role(0, 2);
        x.role(1, question);
        x.role(2, 2);
        x.role(3, 0);
        x.role(4, 1);
        x.begin();
        x.run(2);
        return x;
    }

    /** As busy, but with 32 NODES and 100 BOXES. */
    static BoxIntegrals full() {
        BoxIntegrals x = busy();
        x.role(1, unsure(x));
        for (int node = x.count(1); node < 32; node++) {
            x.node(8, node - 1, 0, 0L);
        }
        x.begin();
        x.run(99);
        return x;
    }

    /** Two DRAWS, NODES and roles, but no RUN. */
    static BoxIntegrals idle() {
        BoxIntegrals x = drawn(0.0, 1.0, 2.0, 4.0);
        x.role(0, 1);
        x.role(3, 0);
        return x;
    }

    static void dueSide(String what, BoxIntegrals x, int box, int draw, double lo, double hi) {
        dueNumber(what + ", lo of draw " + draw + " of box " + box, x.side(box, draw, 0), lo);
        dueNumber(what + ", hi of draw " + draw + " of box " + box, x.side(box, draw, 1), hi);
    }

    static void dueWeight(String what, BoxIntegrals x, int box, double low, double high) {
        dueNumber(what + ", low weight of box " + box, x.weight(box, 0), low);
        dueNumber(what + ", high weight of box " + box, x.weight(box, 1), high);
    }

    static void dueEnds(String what, BoxIntegrals x, int box, int node, double low, double high) {
        dueNumber(what + ", low end", x.enclosed(box, node, 0), low);
        dueNumber(what + ", high end", x.enclosed(box, node, 1), high);
    }

    /** A NODE with the ENCLOSURE lo to hi over every first BOX; the object has its DRAWS before its RUN. */
    static int enclosing(BoxIntegrals x, double lo, double hi) {
        if (b(lo) == b(hi)) {
            return number(x, lo);
        }
        if (lo != -INF && hi != INF) {
            return x.node(0, x.draw(b(lo), b(hi)), 0, 0L);
        }
        int line = number(x, NAN);
        if (lo != -INF) {
            return x.node(7, line, number(x, lo), 0L);
        }
        return hi == INF ? line : x.node(6, line, number(x, hi), 0L);
    }

    /** The ends of a NODE of a KIND that looks at a from al to ah and b from bl to bh. */
    static void dueEndsOfTwo(int kind, double al, double ah, double bl, double bh, double low, double high) {
        BoxIntegrals x = new BoxIntegrals();
        x.draw(b(0.0), b(1.0));
        int a = enclosing(x, al, ah);
        int b = enclosing(x, bl, bh);
        int node = x.node(kind, a, b, 0L);
        x.begin();
        dueEnds("kind " + kind + " of " + al + " to " + ah + " and " + bl + " to " + bh, x, 0, node, low, high);
    }

    /** The ends of a NODE of a KIND that looks at a from al to ah alone. */
    static void dueEndsOfOne(int kind, double al, double ah, double low, double high) {
        BoxIntegrals x = new BoxIntegrals();
        x.draw(b(0.0), b(1.0));
        int a = enclosing(x, al, ah);
        int node = x.node(kind, a, NONE, -1L);
        x.begin();
        dueEnds("kind " + kind + " of " + al + " to " + ah, x, 0, node, low, high);
    }

    /** The VALUE of a NODE of a KIND that looks at two numbers. */
    static void dueOfTwo(int kind, double a, double b, double want) {
        BoxIntegrals x = drawn(0.0, 1.0, 0.0, 1.0);
        int node = x.node(kind, 0, 1, 0L);
        dueNumber("kind " + kind + " of " + a + " and " + b, x.value(node, b(a), b(b), 0L), want);
    }

    /** The VALUE of a NODE of a KIND that looks at one number. */
    static void dueOfOne(int kind, double a, double want) {
        BoxIntegrals x = drawn(0.0, 1.0);
        int node = x.node(kind, 0, NONE, -1L);
        dueNumber("kind " + kind + " of " + a, x.value(node, b(a), 0L, 0L), want);
    }
}
