/** The sentences of "Terms" on DOWN and UP, on DRAWS, on NODES and on their VALUES. */
public final class TermsTest extends SentenceTests {
    private static final String PLACE = "Terms";

    public static void main(String[] args) throws Exception {
        runAll(TermsTest.class);
    }

    /** A sum with 0.0 is the number itself, and its ENCLOSURE DOWN and UP of it. */
    private static void dueDown(double x, double want) {
        BoxIntegrals y = drawn(0.0, 1.0);
        int node = y.node(2, number(y, x), number(y, 0.0), 0L);
        y.begin();
        dueNumber("DOWN of " + x, y.enclosed(0, node, 0), want);
    }

    private static void dueUp(double x, double want) {
        BoxIntegrals y = drawn(0.0, 1.0);
        int node = y.node(2, number(y, x), number(y, 0.0), 0L);
        y.begin();
        dueNumber("UP of " + x, y.enclosed(0, node, 1), want);
    }

    @Sentence(in = PLACE, says = "DOWN of a double is the next one below it,")
    static void downIsTheNextOneBelow() {
        dueDown(1.0, 0x1.fffffffffffffp-1);
        dueDown(1.5, 0x1.7ffffffffffffp0);
        dueDown(-1.0, -0x1.0000000000001p0);
        dueDown(Double.MIN_NORMAL, 0x0.fffffffffffffp-1022);
        dueDown(-0x0.fffffffffffffp-1022, -Double.MIN_NORMAL);
        dueDown(2 * MIN, MIN);
        dueDown(MIN, 0.0);
        dueDown(0.0, -MIN);
        dueDown(-0.0, -MIN);
        dueDown(-MIN, -2 * MIN);
        dueDown(MAX, 0x1.ffffffffffffep1023);
        dueDown(-MAX, -INF);
    }

    @Sentence(in = PLACE, says = "UP the next one above")
    static void upIsTheNextOneAbove() {
        dueUp(0x1.fffffffffffffp-1, 1.0);
        dueUp(1.0, 0x1.0000000000001p0);
        dueUp(-1.0, -0x1.fffffffffffffp-1);
        dueUp(0x0.fffffffffffffp-1022, Double.MIN_NORMAL);
        dueUp(-Double.MIN_NORMAL, -0x0.fffffffffffffp-1022);
        dueUp(-2 * MIN, -MIN);
        dueUp(-MIN, -0.0);
        dueUp(0.0, MIN);
        dueUp(-0.0, MIN);
        dueUp(MIN, 2 * MIN);
        dueUp(-MAX, -0x1.ffffffffffffep1023);
        dueUp(MAX, INF);
    }

    @Sentence(in = PLACE, says = "(Math.nextDown, Math.nextUp: of one without end that lies on its side itself).")
    static void downAndUpOfOneWithoutEnd() {
        dueDown(-INF, -INF);
        dueDown(INF, MAX);
        dueUp(INF, INF);
        dueUp(-INF, -MAX);
    }

    @Sentence(in = PLACE, says = "THE WHOLE LINE is from -infinite to infinite.")
    static void theWholeLine() {
        BoxIntegrals x = drawn(0.0, 1.0);
        int none = number(x, NAN);
        x.begin();
        due("from", x.enclosed(0, none, 0), 0xFFF0000000000000L);
        due("to", x.enclosed(0, none, 1), 0x7FF0000000000000L);
    }

    @Sentence(in = PLACE, says = "DRAWS 0 .. 2, as they come,")
    static void drawsAreNumberedAsTheyCome() {
        BoxIntegrals x = new BoxIntegrals();
        due("first", x.draw(b(5.0), b(6.0)), 0);
        due("one that is refused", x.draw(b(5.0), b(5.0)), OUTSIDE);
        due("second", x.draw(b(1.0), b(2.0)), 1);
        due("third", x.draw(b(3.0), b(4.0)), 2);
        due("there is no fourth", x.draw(b(7.0), b(8.0)), FULL);
        due("three", x.count(0), 3);
        x.begin();
        dueSide("as they came", x, 0, 0, 5.0, 6.0);
        dueSide("as they came", x, 0, 1, 1.0, 2.0);
        dueSide("as they came", x, 0, 2, 3.0, 4.0);
    }

    private static void dueDraw(double lo, double hi, int want) {
        due("draw from " + lo + " to " + hi, new BoxIntegrals().draw(b(lo), b(hi)), want);
    }

    @Sentence(in = PLACE, says = "each has a SPAN: lo below hi,")
    static void loIsBelowHi() {
        dueDraw(1.0, 1.0, OUTSIDE);
        dueDraw(2.0, 1.0, OUTSIDE);
        dueDraw(-1.0, -2.0, OUTSIDE);
        dueDraw(up(1.0), 1.0, OUTSIDE);
        dueDraw(1.0, up(1.0), 0);
        dueDraw(0.0, 0.0, OUTSIDE);
        dueDraw(-0.0, 0.0, OUTSIDE);
        dueDraw(0.0, -0.0, OUTSIDE);
        dueDraw(0.0, MIN, 0);
        dueDraw(-MIN, -0.0, 0);
        dueDraw(-MIN, 0.0, 0);
        dueDraw(-2.0, -1.0, 0);
        dueDraw(-1.0, 1.0, 0);
        dueDraw(1.0, -1.0, OUTSIDE);
        BoxIntegrals x = drawn(-0.0, MIN);
        x.begin();
        dueSide("as it was told", x, 0, 0, -0.0, MIN);
    }

    @Sentence(in = PLACE, says = "both finite.")
    static void loAndHiAreFinite() {
        dueDraw(-INF, 1.0, OUTSIDE);
        dueDraw(1.0, INF, OUTSIDE);
        dueDraw(-INF, INF, OUTSIDE);
        dueDraw(NAN, 1.0, OUTSIDE);
        dueDraw(1.0, NAN, OUTSIDE);
        dueDraw(NAN, NAN, OUTSIDE);
        dueDraw(-MAX, MAX, 0);
        dueDraw(1.0, MAX, 0);
        for (long nan : NANS) {
            due("draw from no number", new BoxIntegrals().draw(nan, b(1.0)), OUTSIDE);
            due("draw to no number", new BoxIntegrals().draw(b(1.0), nan), OUTSIDE);
        }
    }

    @Sentence(in = PLACE, says = "NODES 0 .. 31, as they come, each of a KIND with a, b")
    static void nodesAreNumberedAsTheyCome() {
        BoxIntegrals x = new BoxIntegrals();
        for (int node = 0; node <= 31; node++) {
            due("one that is refused", x.node(2, node, 0, 0L), UNKNOWN);
            due("node " + node, x.node(1, 0, 0, b(node)), node);
        }
        due("there is no node 32", x.node(1, 0, 0, 0L), FULL);
        due("nodes", x.count(1), 32);
        for (int node = 0; node <= 31; node++) {
            dueNumber("value of node " + node, x.value(node, 0L, 0L, 0L), node);
        }
    }

    @Sentence(in = PLACE, says = "(earlier NODES; of 0 a DRAW),")
    static void aAndBAreEarlierNodesOrADraw() {
        for (int kind = 2; kind <= 16; kind++) {
            BoxIntegrals x = new BoxIntegrals();
            x.draw(b(0.0), b(1.0));
            due("kind " + kind + " of a draw alone", x.node(kind, 0, 0, 0L), UNKNOWN);
            number(x, 1.0);
            number(x, 2.0);
            due("kind " + kind + " of itself", x.node(kind, 2, 0, 0L), UNKNOWN);
            due("kind " + kind + " of a later one", x.node(kind, 3, 0, 0L), UNKNOWN);
            due("kind " + kind + " of node -1", x.node(kind, -1, 0, 0L), UNKNOWN);
            due("kind " + kind + " of NONE", x.node(kind, NONE, 0, 0L), UNKNOWN);
            boolean two = kind <= 7;
            due("kind " + kind + " with itself", x.node(kind, 0, 2, 0L), two ? UNKNOWN : 2);
            due("kind " + kind + " of the last two", x.node(kind, 1, 1, 0L), two ? 2 : 3);
        }
        BoxIntegrals y = new BoxIntegrals();
        number(y, 1.0);
        due("draw 0 without draws", y.node(0, 0, 0, 0L), UNKNOWN);
        y.draw(b(0.0), b(1.0));
        y.draw(b(0.0), b(1.0));
        due("draw 2 of two", y.node(0, 2, 0, 0L), UNKNOWN);
        due("draw -1", y.node(0, -1, 0, 0L), UNKNOWN);
        due("draw 1 of two, while there is one node", y.node(0, 1, 0, 0L), 1);
    }

    @Sentence(in = PLACE, says = "BITS (of 1):")
    static void bitsAreLookedAtByKind1Alone() {
        BoxIntegrals x = drawn(0.0, 1.0, 0.0, 1.0);
        dueNumber("a number", x.value(x.node(1, 0, 0, b(7.0)), 0L, 0L, 0L), 7.0);
        for (int kind = 0; kind <= 16; kind++) {
            if (kind != 1) {
                int plain = x.node(kind, 0, 1, 0L);
                int other = kind < 14 ? x.node(kind, 0, 1, b(7.0)) : plain;
                due("kind " + kind, x.value(other, b(0.75), b(0.5), 0L), x.value(plain, b(0.75), b(0.5), 0L));
            }
        }
    }

    @Sentence(in = PLACE, says = "what is not named is not looked at.")
    static void whatIsNotNamedIsNotLookedAt() {
        for (int odd : NOWHERE) {
            BoxIntegrals x = drawn(0.0, 1.0, 0.0, 1.0);
            due("a number with a and b " + odd, x.node(1, odd, odd, b(3.0)), 2);
            dueNumber("its value", x.value(2, 0L, 0L, 0L), 3.0);
            due("a draw with b " + odd, x.node(0, 1, odd, -1L), 3);
            dueNumber("its value", x.value(3, b(0.25), b(0.5), 0L), 0.5);
            for (int kind = 8; kind <= 16; kind++) {
                due("kind " + kind + " with b " + odd, x.node(kind, 1, odd, -1L), kind - 4);
            }
            dueNumber("a magnitude's value", x.value(4, b(0.25), b(-0.5), 0L), 0.5);
            x.begin();
            dueEnds("a number", x, 0, 2, 3.0, 3.0);
            dueEnds("a draw", x, 0, 3, 0.0, 1.0);
            dueEnds("a magnitude", x, 0, 4, 0.0, 1.0);
        }
        BoxIntegrals y = new BoxIntegrals();
        due("a number without draws and nodes", y.node(1, 0, 0, 0L), 0);
    }

    @Sentence(in = PLACE, says = "The VALUE of a NODE at a POINT (a number for each DRAW):")
    static void aPointHasANumberForEachDraw() {
        BoxIntegrals x = drawn(0.0, 1.0, 0.0, 1.0, 0.0, 1.0);
        int sum = x.node(2, x.node(4, 0, 1, 0L), 2, 0L);
        dueNumber("x * y + z", x.value(sum, b(2.0), b(3.0), b(4.0)), 10.0);
        dueNumber("y", x.value(1, b(2.0), b(3.0), b(4.0)), 3.0);
        dueNumber("another point", x.value(sum, b(4.0), b(3.0), b(2.0)), 14.0);
    }

    @Sentence(in = PLACE, says = "0 the DRAW's.")
    static void kind0IsTheDraws() {
        BoxIntegrals x = drawn(0.0, 1.0, 0.0, 1.0, 0.0, 1.0);
        for (double n : new double[] {0.5, -0.0, MIN, -MAX, INF, -INF, 1e300, NAN}) {
            dueNumber("draw 0 at " + n, x.value(0, b(n), b(2.0), b(3.0)), n);
            dueNumber("draw 1 at " + n, x.value(1, b(2.0), b(n), b(3.0)), n);
            dueNumber("draw 2 at " + n, x.value(2, b(2.0), b(3.0), b(n)), n);
        }
    }

    @Sentence(in = PLACE, says = "1 the number of the BITS.")
    static void kind1IsTheNumberOfTheBits() {
        BoxIntegrals x = new BoxIntegrals();
        for (double n : new double[] {0.5, 0.0, -0.0, MIN, -MAX, INF, -INF, NAN}) {
            dueNumber("number " + n, x.value(number(x, n), -1L, -1L, -1L), n);
        }
    }

    @Sentence(in = PLACE, says = "2 a + b.")
    static void kind2IsASum() {
        dueOfTwo(2, 1.5, 2.25, 3.75);
        dueOfTwo(2, -0.0, 0.0, 0.0);
        dueOfTwo(2, -0.0, -0.0, -0.0);
        dueOfTwo(2, 1.0, -1.0, 0.0);
        dueOfTwo(2, MAX, MAX, INF);
        dueOfTwo(2, -INF, 5.0, -INF);
        dueOfTwo(2, INF, -INF, NAN);
        dueOfTwo(2, NAN, 1.0, NAN);
        dueOfTwo(2, 1.0, NAN, NAN);
    }

    @Sentence(in = PLACE, says = "3 a - b.")
    static void kind3IsADifference() {
        dueOfTwo(3, 1.5, 2.25, -0.75);
        dueOfTwo(3, -0.0, 0.0, -0.0);
        dueOfTwo(3, 0.0, 0.0, 0.0);
        dueOfTwo(3, -MAX, MAX, -INF);
        dueOfTwo(3, 1.0, INF, -INF);
        dueOfTwo(3, INF, INF, NAN);
        dueOfTwo(3, NAN, 1.0, NAN);
        dueOfTwo(3, 1.0, NAN, NAN);
    }

    @Sentence(in = PLACE, says = "4 a * b.")
    static void kind4IsAProduct() {
        dueOfTwo(4, 1.5, -2.0, -3.0);
        dueOfTwo(4, -0.0, 5.0, -0.0);
        dueOfTwo(4, -0.0, -5.0, 0.0);
        dueOfTwo(4, MAX, -2.0, -INF);
        dueOfTwo(4, 1e-200, 1e-200, 0.0);
        dueOfTwo(4, -INF, -1.0, INF);
        dueOfTwo(4, 0.0, INF, NAN);
        dueOfTwo(4, -INF, -0.0, NAN);
        dueOfTwo(4, NAN, 0.0, NAN);
    }

    @Sentence(in = PLACE, says = "5 a / b.")
    static void kind5IsAQuotient() {
        dueOfTwo(5, 3.0, -2.0, -1.5);
        dueOfTwo(5, 1.0, 0.0, INF);
        dueOfTwo(5, 1.0, -0.0, -INF);
        dueOfTwo(5, 0.0, 0.0, NAN);
        dueOfTwo(5, 0.0, -5.0, -0.0);
        dueOfTwo(5, -1.0, INF, -0.0);
        dueOfTwo(5, INF, INF, NAN);
        dueOfTwo(5, INF, -2.0, -INF);
        dueOfTwo(5, MIN, 2.0, 0.0);
        dueOfTwo(5, 1.0, NAN, NAN);
    }

    @Sentence(in = PLACE, says = "6 Math.min(a, b).")
    static void kind6IsTheLesser() {
        dueOfTwo(6, 1.0, 2.0, 1.0);
        dueOfTwo(6, 2.0, -1.0, -1.0);
        dueOfTwo(6, -0.0, 0.0, -0.0);
        dueOfTwo(6, 0.0, -0.0, -0.0);
        dueOfTwo(6, -INF, 1.0, -INF);
        dueOfTwo(6, NAN, -INF, NAN);
        dueOfTwo(6, -INF, NAN, NAN);
    }

    @Sentence(in = PLACE, says = "7 Math.max(a, b).")
    static void kind7IsTheGreater() {
        dueOfTwo(7, 1.0, 2.0, 2.0);
        dueOfTwo(7, -2.0, -1.0, -1.0);
        dueOfTwo(7, -0.0, 0.0, 0.0);
        dueOfTwo(7, 0.0, -0.0, 0.0);
        dueOfTwo(7, -0.0, -0.0, -0.0);
        dueOfTwo(7, INF, 1.0, INF);
        dueOfTwo(7, NAN, INF, NAN);
        dueOfTwo(7, INF, NAN, NAN);
    }

    @Sentence(in = PLACE, says = "8 Math.abs(a).")
    static void kind8IsTheMagnitude() {
        dueOfOne(8, -3.5, 3.5);
        dueOfOne(8, 3.5, 3.5);
        dueOfOne(8, -0.0, 0.0);
        dueOfOne(8, -MIN, MIN);
        dueOfOne(8, -INF, INF);
        dueOfOne(8, NAN, NAN);
    }

    @Sentence(in = PLACE, says = "9 Math.sqrt(a).")
    static void kind9IsTheRoot() {
        dueOfOne(9, 6.25, 2.5);
        dueOfOne(9, 0.0, 0.0);
        dueOfOne(9, -0.0, -0.0);
        dueOfOne(9, -MIN, NAN);
        dueOfOne(9, -INF, NAN);
        dueOfOne(9, INF, INF);
        dueOfOne(9, MIN, 0x1p-537);
        dueOfOne(9, MAX, 0x1.fffffffffffffp511);
        dueOfOne(9, NAN, NAN);
    }

    @Sentence(in = PLACE, says = "10 a * a.")
    static void kind10IsTheSquare() {
        dueOfOne(10, -1.5, 2.25);
        dueOfOne(10, -0.0, 0.0);
        dueOfOne(10, 1e-200, 0.0);
        dueOfOne(10, -1e200, INF);
        dueOfOne(10, -INF, INF);
        dueOfOne(10, NAN, NAN);
    }

    @Sentence(in = PLACE, says = "11 Math.floor(a).")
    static void kind11IsTheFloor() {
        dueOfOne(11, 2.75, 2.0);
        dueOfOne(11, -2.25, -3.0);
        dueOfOne(11, -2.0, -2.0);
        dueOfOne(11, 0.5, 0.0);
        dueOfOne(11, down(1.0), 0.0);
        dueOfOne(11, -MIN, -1.0);
        dueOfOne(11, 0.0, 0.0);
        dueOfOne(11, -0.0, -0.0);
        dueOfOne(11, -0x1.fffffffffffffp51, -0x1p52);
        dueOfOne(11, 0x1.fffffffffffffp52, 0x1.fffffffffffffp52);
        dueOfOne(11, -INF, -INF);
        dueOfOne(11, NAN, NAN);
    }

    @Sentence(in = PLACE, says = "12 -a.")
    static void kind12IsMinus() {
        dueOfOne(12, 2.5, -2.5);
        dueOfOne(12, 0.0, -0.0);
        dueOfOne(12, -0.0, 0.0);
        dueOfOne(12, -INF, INF);
        dueOfOne(12, NAN, NAN);
    }

    @Sentence(in = PLACE, says = "13 (double) (float) a.")
    static void kind13IsAsAFloatHasIt() {
        dueOfOne(13, 0.1, 0x1.99999ap-4);
        dueOfOne(13, 1.0 + 0x1p-24, 1.0);
        dueOfOne(13, 1.0 + 0x1.8p-23, 1.0 + 0x1p-22);
        dueOfOne(13, 0x1.fffffep127, 0x1.fffffep127);
        dueOfOne(13, down(0x1.ffffffp127), 0x1.fffffep127);
        dueOfOne(13, 0x1.ffffffp127, INF);
        dueOfOne(13, -1e300, -INF);
        dueOfOne(13, 0x1p-149, 0x1p-149);
        dueOfOne(13, 0x1p-150, 0.0);
        dueOfOne(13, up(0x1p-150), 0x1p-149);
        dueOfOne(13, -0x1p-150, -0.0);
        dueOfOne(13, -MIN, -0.0);
        dueOfOne(13, 0x1.8p-149, 0x1p-148);
        dueOfOne(13, -0.0, -0.0);
        dueOfOne(13, INF, INF);
        dueOfOne(13, NAN, NAN);
    }

    @Sentence(in = PLACE, says = "14 Math.signum(a).")
    static void kind14IsTheSign() {
        dueOfOne(14, 2.5, 1.0);
        dueOfOne(14, -MIN, -1.0);
        dueOfOne(14, 0.0, 0.0);
        dueOfOne(14, -0.0, -0.0);
        dueOfOne(14, -INF, -1.0);
        dueOfOne(14, NAN, NAN);
    }

    @Sentence(in = PLACE, says = "15 (double) (int) a.")
    static void kind15IsAsAnIntHasIt() {
        dueOfOne(15, 1.9, 1.0);
        dueOfOne(15, -1.9, -1.0);
        dueOfOne(15, -0.9, 0.0);
        dueOfOne(15, -0.0, 0.0);
        dueOfOne(15, 2147483646.5, 2147483646.0);
        dueOfOne(15, 2147483647.0, 2147483647.0);
        dueOfOne(15, 2147483648.0, 2147483647.0);
        dueOfOne(15, -2147483648.5, -2147483648.0);
        dueOfOne(15, -2147483649.0, -2147483648.0);
        dueOfOne(15, INF, 2147483647.0);
        dueOfOne(15, -INF, -2147483648.0);
        dueOfOne(15, NAN, 0.0);
    }

    @Sentence(in = PLACE, says = "16 (double) (long) a.")
    static void kind16IsAsALongHasIt() {
        dueOfOne(16, 3000000000.75, 3000000000.0);
        dueOfOne(16, -1.9, -1.0);
        dueOfOne(16, -0.9, 0.0);
        dueOfOne(16, -0.0, 0.0);
        dueOfOne(16, down(0x1p63), down(0x1p63));
        dueOfOne(16, 0x1p63, 0x1p63);
        dueOfOne(16, 1e300, 0x1p63);
        dueOfOne(16, -1e300, -0x1p63);
        dueOfOne(16, INF, 0x1p63);
        dueOfOne(16, -INF, -0x1p63);
        dueOfOne(16, NAN, 0.0);
    }
}
