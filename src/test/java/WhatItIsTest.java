/** The sentences of "What it is". */
public final class WhatItIsTest extends SentenceTests {
    private static final String PLACE = "What it is";

    public static void main(String[] args) throws Exception {
        runAll(WhatItIsTest.class);
    }

    @Sentence(in = PLACE, says = "Chances enclosed by boxes: spans of drawn numbers are split where that helps most, formulas are "
            + "enclosed over each box with ends put outward, boxes are sure or open, and the odds of a question under a condition lie "
            + "between two ends.")
    static void theOddsLieBetweenTwoEnds() {
        BoxIntegrals x = drawn(0.0, 1.0, 0.0, 1.0);
        x.role(0, x.node(3, 0, 1, 0L));
        x.role(1, x.node(3, 0, number(x, 0.5), 0L));
        x.begin();
        double width = 1.0;
        for (int steps : new int[] {9, 30, 60}) {
            due("steps", x.run(steps), steps);
            double low = d(x.odds(0));
            double high = d(x.odds(1));
            dueTrue("0.75 from " + low + " to " + high, low <= 0.75 && 0.75 <= high);
            dueTrue("nearer than " + width, high - low < width);
            width = high - low;
        }
        dueTrue("near, after 99 steps, " + width, width < 0.5);
    }

    @Sentence(in = PLACE, says = "1 NUMBERS are doubles, worked as the machine works them,")
    static void numbersAreWorkedAsTheMachineWorksThem() {
        dueOfTwo(2, 0.1, 0.2, 0.30000000000000004);
        dueOfTwo(2, 1.0, 0x1p-53, 1.0);
        dueOfTwo(2, up(1.0), 0x1p-53, up(up(1.0)));
        dueOfTwo(2, 1.0, up(0x1p-53), up(1.0));
        dueOfTwo(2, MAX, 0x1p969, MAX);
        dueOfTwo(2, MAX, 0x1p970, INF);
        dueOfTwo(3, Double.MIN_NORMAL, MIN, down(Double.MIN_NORMAL));
        dueOfTwo(4, MIN, 0.5, 0.0);
        dueOfTwo(4, MIN, up(0.5), MIN);
        dueOfTwo(4, 3 * MIN, 0.5, 2 * MIN);
        dueOfTwo(4, -MIN, 0.5, -0.0);
        dueOfTwo(5, 1.0, 3.0, 0.3333333333333333);
        dueOfTwo(5, 5 * MIN, 2.0, 2 * MIN);
        dueOfTwo(5, MAX, 0.5, INF);
        dueOfOne(9, 2.0, 1.4142135623730951);
        dueOfOne(10, 1.1, 1.2100000000000002);
    }

    @Sentence(in = PLACE, says = "told by BITS (as Double.doubleToLongBits tells them;")
    static void numbersAreToldByBits() {
        BoxIntegrals x = drawn(0.0, 1.0);
        due("1.0", x.value(0, 0x3FF0000000000000L, 0L, 0L), 0x3FF0000000000000L);
        due("0.0", x.value(0, 0L, 0L, 0L), 0L);
        due("-0.0", x.value(0, Long.MIN_VALUE, 0L, 0L), Long.MIN_VALUE);
        due("infinite", x.value(0, 0x7FF0000000000000L, 0L, 0L), 0x7FF0000000000000L);
        for (long nan : NANS) {
            due("no number " + nan + " of a draw", x.value(0, nan, 0L, 0L), NAN_BITS);
            int number = x.node(1, 0, 0, nan);
            due("no number " + nan + " of a node", x.value(number, 0L, 0L, 0L), NAN_BITS);
            for (int kind : new int[] {8, 12, 14, 13}) {
                BoxIntegrals y = drawn(0.0, 1.0);
                due("kind " + kind + " of no number " + nan, y.value(y.node(kind, 0, 0, 0L), nan, 0L, 0L), NAN_BITS);
            }
        }
    }

    @Sentence(in = PLACE, says = "any BITS may be given).")
    static void anyBitsMayBeGiven() {
        long[] odd = {0L, Long.MIN_VALUE, 1L, 0x8000000000000001L, 0x000FFFFFFFFFFFFFL, 0x800FFFFFFFFFFFFFL, 0x0010000000000000L,
            0x7FEFFFFFFFFFFFFFL, 0xFFEFFFFFFFFFFFFFL, 0x7FF0000000000000L, 0xFFF0000000000000L, NANS[0], NANS[1], NANS[2],
            NANS[3], NANS[4], NANS[5]};
        for (long one : odd) {
            for (long other : odd) {
                BoxIntegrals x = new BoxIntegrals();
                boolean span = d(one) < d(other) && d(one) != -INF && d(other) != INF;
                due("draw " + one + ", " + other, x.draw(one, other), span ? 0 : OUTSIDE);
            }
            BoxIntegrals y = openRun(-1.0, 1.0, -1.0, 1.0, -1.0, 1.0);
            boolean in = d(one) >= -1.0 && d(one) <= 1.0;
            due("where " + one, y.where(one, one, one), in ? 0 : NONE);
            due("within " + one, y.within(0, 0, one, one, one), in ? 2 : 0);
            due("value at " + one, y.value(0, one, one, one), b(d(one)));
            due("node of " + one, y.node(1, 0, 0, one), 4);
            due("value of " + one, y.value(4, one, one, one), b(d(one)));
            dueEnds("number " + one, y, 0, 4, Double.isNaN(d(one)) ? -INF : d(one), Double.isNaN(d(one)) ? INF : d(one));
        }
    }

    @Sentence(in = PLACE, says = "An object is used for at most 512 calls after it has been made; what later calls answer is free.")
    static void allOf512CallsAreAnswered() {
        BoxIntegrals x = drawn(0.0, 1.0, 0.0, 1.0, 0.0, 1.0);
        x.role(1, unsure(x));
        for (int call = 9; call < 512; call += 2) {
            due("call " + call, x.begin(), 3);
            due("call " + (call + 1), x.run(99), 99);
        }
        BoxIntegrals y = new BoxIntegrals();
        for (int call = 1; call <= 511; call++) {
            due("clear as call " + call, y.clear(), 0);
        }
        due("call 512", y.draw(b(0.0), b(1.0)), 0);
    }
}
