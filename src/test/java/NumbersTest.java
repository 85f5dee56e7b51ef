/** Every kind of node at points of edge and pseudo-random BITS, against the machine's own doubles. */
public final class NumbersTest extends SentenceTests {
    private static final String PLACE = "What it is";
    private static final String SENTENCE = "1 NUMBERS are doubles, worked as the machine works them,";
    private static final int ROUNDS = 400_000;
    private static final int CALLS = 480;

    private static long seed = 20261116L;
    private static int used = CALLS;
    private static BoxIntegrals x;

    public static void main(String[] args) throws Exception {
        runAll(NumbersTest.class);
    }

    @Sentence(in = PLACE, says = SENTENCE)
    static void edgesAreWorkedAsTheMachineWorksThem() {
        long[] edges = edges();
        int wrong = 0;
        for (long a : edges) {
            for (long b : edges) {
                wrong += wrongOf(a, b);
            }
        }
        due("how many are wrong", wrong, 0);
    }

    @Sentence(in = PLACE, says = SENTENCE)
    static void pseudoRandomNumbersAreWorkedAsTheMachineWorksThem() {
        int wrong = 0;
        for (int i = 0; i < ROUNDS; i++) {
            long a = bits();
            wrong += wrongOf(a, near(a));
        }
        due("how many are wrong", wrong, 0);
    }

    private static int wrongOf(long a, long b) {
        int wrong = 0;
        for (int kind = 0; kind <= 16; kind++) {
            if (kind == 1) {
                continue;
            }
            freshWhenUsedUp();
            long got = x.value(kind, a, b, 0L);
            used++;
            long due = b(machine(kind, d(a), d(b)));
            if (got != due) {
                wrong++;
                due("kind " + kind + " of " + a + ", " + b, got, due);
            }
        }
        return wrong;
    }

    private static void freshWhenUsedUp() {
        if (used < CALLS) {
            return;
        }
        x = new BoxIntegrals();
        x.draw(0L, Double.doubleToLongBits(1.0));
        x.draw(0L, Double.doubleToLongBits(1.0));
        x.node(0, 0, 0, 0L);
        x.node(0, 1, 0, 0L);
        for (int kind = 2; kind <= 16; kind++) {
            x.node(kind, 0, 1, 0L);
        }
        used = 19;
    }

    private static double machine(int kind, double a, double b) {
        switch (kind) {
            case 0: return a;
            case 2: return a + b;
            case 3: return a - b;
            case 4: return a * b;
            case 5: return a / b;
            case 6: return Math.min(a, b);
            case 7: return Math.max(a, b);
            case 8: return Math.abs(a);
            case 9: return Math.sqrt(a);
            case 10: return a * a;
            case 11: return Math.floor(a);
            case 12: return -a;
            case 13: return (double) (float) a;
            case 14: return Math.signum(a);
            case 15: return (double) (int) a;
            default: return (double) (long) a;
        }
    }

    private static long next() {
        seed ^= seed << 13;
        seed ^= seed >>> 7;
        seed ^= seed << 17;
        return seed;
    }

    private static int upTo(int n) {
        return (int) Math.floorMod(next() >>> 11, (long) n);
    }

    /** BITS of many shapes: any, of a middling exponent, subnormal, near a float's ends, a small whole number. */
    private static long bits() {
        long any = next();
        switch (upTo(8)) {
            case 0: return any;
            case 1: return any & 0x800FFFFFFFFFFFFFL;
            case 2: return any & 0x800FFFFFFFFFFFFFL | (long) (1023 + upTo(130) - 65) << 52;
            case 3: return any & 0x800FFFFFFFFFFFFFL & -1L << upTo(53) | (long) (1023 - 120 - upTo(34)) << 52;
            case 4: return Double.doubleToLongBits(upTo(2001) - 1000);
            case 5: return Double.doubleToLongBits((upTo(2001) - 1000) / 8.0);
            case 6: return any & 0x8000000000000000L | (long) (1 + upTo(2046)) << 52 | any & -1L << upTo(53) & 0xFFFFFFFFFFFFFL;
            default: return any & 0x800FFFFFFFFFFFFFL | (long) (1023 + 120 + upTo(10)) << 52;
        }
    }

    /** Often BITS that lie close to others, so that sums cancel, quotients are near 1, and ties come. */
    private static long near(long a) {
        switch (upTo(5)) {
            case 0: return a ^ 0x8000000000000000L ^ upTo(5);
            case 1: return a + upTo(9) - 4;
            case 2: return a ^ (long) upTo(64) << 52;
            case 3: return a ^ 0x8000000000000000L ^ (long) upTo(128) << 48;
            default: return bits();
        }
    }

    private static long[] edges() {
        double[] above = {0.0, Double.MIN_VALUE, 2 * Double.MIN_VALUE, 3 * Double.MIN_VALUE,
            Math.nextDown(Double.MIN_NORMAL), Double.MIN_NORMAL, Math.nextUp(Double.MIN_NORMAL), 1e-160, 1.5e-162,
            0x1p-151, 0x1p-150, Math.nextUp(0x1p-150), 0x1p-149, 0x1.8p-149, 0x1p-148, 0x1.4p-148,
            Math.nextDown(0x1p-126), 0x1p-126, 0x1.ffffffp-127, 0.25, Math.nextDown(0.5), 0.5, Math.nextUp(0.5),
            Math.nextDown(1.0), 1.0, Math.nextUp(1.0), 1.5, 2.0, 2.5, 3.0, 10.0, 0x1.000001p0, 0x1.000003p0,
            0x1.0000010000001p0, 2147483646.5, 2147483647.0, 2147483647.5, 2147483648.0, 2147483648.5, 2147483649.0,
            0x1p52, 0x1p52 - 0.5, 0x1p51 + 0.5, 0x1p53, 0x1p53 - 1, Math.nextDown(0x1p63), 0x1p63, Math.nextUp(0x1p63),
            Float.MAX_VALUE, 0x1.fffffefffffffp127, 0x1.ffffffp127, 0x1p128, 1e154, 1.5e154, 0x1p1023,
            Math.nextDown(Double.MAX_VALUE), Double.MAX_VALUE, Double.POSITIVE_INFINITY};
        long[] all = new long[2 * above.length + 4];
        for (int i = 0; i < above.length; i++) {
            all[2 * i] = Double.doubleToLongBits(above[i]);
            all[2 * i + 1] = all[2 * i] | 0x8000000000000000L;
        }
        int nans = 2 * above.length;
        all[nans] = 0x7FF8000000000000L;
        all[nans + 1] = 0x7FF0000000000001L;
        all[nans + 2] = 0xFFF8000000000000L;
        all[nans + 3] = -1L;
        return all;
    }
}
