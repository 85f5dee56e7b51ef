/** The sentences of "Terms" on THE ENCLOSURE of a NODE over a BOX. */
public final class EnclosuresTest extends SentenceTests {
    private static final String PLACE = "Terms";
    private static final String AS_THE_NODE_MAKES = "6, 7, 11, 13, 14, 15, 16: what the NODE makes of al (and bl), of ah (and bh).";

    public static void main(String[] args) throws Exception {
        runAll(EnclosuresTest.class);
    }

    private static void dueWholeLineOfTwo(int kind, double al, double ah, double bl, double bh) {
        dueEndsOfTwo(kind, al, ah, bl, bh, -INF, INF);
    }

    @Sentence(in = PLACE, says = "THE ENCLOSURE of a NODE over a BOX (for each DRAW a side, lo to hi) is a low and a high end:")
    static void anEnclosureIsByTheSidesOfItsBox() {
        BoxIntegrals x = openRun(0.0, 8.0, 2.0, 3.0, -1.0, 5.0);
        int sum = x.node(2, x.node(2, 0, 1, 0L), 2, 0L);
        x.run(2);
        dueEnds("over box 0", x, 0, sum, down(down(2.0) - 1.0), up(up(7.0) + 2.0));
        dueEnds("over box 1", x, 1, sum, down(down(6.0) - 1.0), up(up(11.0) + 5.0));
        dueEnds("over box 2", x, 2, sum, down(down(2.0) + 2.0), up(up(7.0) + 5.0));
    }

    @Sentence(in = PLACE, says = "0 the side.")
    static void kind0IsTheSide() {
        BoxIntegrals x = openRun(-0.0, 1.0, -3.5, -MIN, -MAX, MAX);
        dueEnds("draw 0", x, 0, 0, -0.0, 1.0);
        dueEnds("draw 1", x, 0, 1, -3.5, -MIN);
        dueEnds("draw 2", x, 0, 2, -MAX, MAX);
        BoxIntegrals y = openRun(0.0, 1.0);
        y.run(1);
        dueEnds("box 0", y, 0, 0, 0.0, 0.5);
        dueEnds("box 1", y, 1, 0, 0.5, 1.0);
    }

    @Sentence(in = PLACE, says = "1 the number twice;")
    static void kind1IsTheNumberTwice() {
        BoxIntegrals x = drawn(0.0, 1.0);
        x.begin();
        for (double n : new double[] {0.1, -2.5, 0.0, -0.0, MIN, MAX, INF, -INF}) {
            dueEnds("number " + n, x, 0, number(x, n), n, n);
        }
    }

    @Sentence(in = PLACE, says = "THE WHOLE LINE, if it is not a number.")
    static void kind1IsTheWholeLineIfItIsNotANumber() {
        BoxIntegrals x = drawn(0.0, 1.0);
        x.begin();
        for (long nan : NANS) {
            dueEnds("no number " + nan, x, 0, x.node(1, 0, 0, nan), -INF, INF);
        }
    }

    @Sentence(in = PLACE, says = "Of others by the ENCLOSURES of a, b, al to ah, bl to bh:")
    static void othersAreByTheEnclosuresOfTheirNodes() {
        BoxIntegrals x = drawn(1.0, 2.0, 4.0, 8.0);
        int first = x.node(2, 0, 1, 0L);
        int second = x.node(3, 1, 0, 0L);
        int both = x.node(4, first, second, 0L);
        x.begin();
        dueEnds("a", x, 0, first, down(5.0), up(10.0));
        dueEnds("b", x, 0, second, down(2.0), up(7.0));
        dueEnds("a * b", x, 0, both, down(down(5.0) * down(2.0)), up(up(10.0) * up(7.0)));
        dueEnds("a less itself", x, 0, x.node(3, first, first, 0L), down(down(5.0) - up(10.0)), up(up(10.0) - down(5.0)));
    }

    @Sentence(in = PLACE, says = "2: DOWN(al + bl), UP(ah + bh).")
    static void kind2AddsTheEnds() {
        dueEndsOfTwo(2, -1.0, 2.0, 0.5, 4.0, down(-0.5), up(6.0));
        dueEndsOfTwo(2, 0.1, 0.1, 0.2, 0.2, down(0.1 + 0.2), up(0.1 + 0.2));
        dueEndsOfTwo(2, 1.0, 1.0, -1.0, -1.0, -MIN, MIN);
        dueEndsOfTwo(2, -MIN, -MIN, 0.0, 0.0, -2 * MIN, -0.0);
        dueEndsOfTwo(2, MAX, MAX, MAX, MAX, MAX, INF);
        dueEndsOfTwo(2, -MAX, -MAX, -MAX, -MAX, -INF, -MAX);
        dueEndsOfTwo(2, -INF, -INF, 0.5, 4.0, -INF, -MAX);
        dueEndsOfTwo(2, INF, INF, 0.5, 4.0, MAX, INF);
        dueEndsOfTwo(2, 1.0, INF, 0.5, 4.0, down(1.5), INF);
    }

    @Sentence(in = PLACE, says = "3: DOWN(al - bh), UP(ah - bl).")
    static void kind3SubtractsTheOtherEnds() {
        dueEndsOfTwo(3, -1.0, 2.0, 0.5, 4.0, down(-5.0), up(1.5));
        dueEndsOfTwo(3, 1.0, 1.0, 1.0, 1.0, -MIN, MIN);
        dueEndsOfTwo(3, -MAX, MAX, -MAX, MAX, -INF, INF);
        dueEndsOfTwo(3, INF, INF, 0.5, 4.0, MAX, INF);
        dueEndsOfTwo(3, 0.5, 4.0, INF, INF, -INF, -MAX);
        dueEndsOfTwo(3, 1.0, 2.0, 3.0, INF, -INF, up(-1.0));
    }

    @Sentence(in = PLACE, says = "4: of al * bl, al * bh, ah * bl, ah * bh DOWN of the least, UP of the greatest")
    static void kind4TakesTheLeastAndTheGreatestProduct() {
        dueEndsOfTwo(4, 2.0, 3.0, 5.0, 7.0, down(10.0), up(21.0));
        dueEndsOfTwo(4, 2.0, 3.0, -7.0, 5.0, down(-21.0), up(15.0));
        dueEndsOfTwo(4, 2.0, 3.0, -7.0, -5.0, down(-21.0), up(-10.0));
        dueEndsOfTwo(4, -3.0, 2.0, 5.0, 7.0, down(-21.0), up(14.0));
        dueEndsOfTwo(4, -3.0, 2.0, -7.0, 5.0, down(-15.0), up(21.0));
        dueEndsOfTwo(4, -3.0, 2.0, -5.0, 9.0, down(-27.0), up(18.0));
        dueEndsOfTwo(4, -2.0, 3.0, -9.0, 5.0, down(-27.0), up(18.0));
        dueEndsOfTwo(4, -3.0, 2.0, -7.0, -5.0, down(-14.0), up(21.0));
        dueEndsOfTwo(4, -3.0, -2.0, 5.0, 7.0, down(-21.0), up(-10.0));
        dueEndsOfTwo(4, -3.0, -2.0, -7.0, 5.0, down(-15.0), up(21.0));
        dueEndsOfTwo(4, -3.0, -2.0, -7.0, -5.0, down(10.0), up(21.0));
        dueEndsOfTwo(4, MAX, MAX, MAX, MAX, MAX, INF);
        dueEndsOfTwo(4, 1.0, 2.0, INF, INF, MAX, INF);
        dueEndsOfTwo(4, 1e-200, 2e-200, 1e-200, 2e-200, -MIN, MIN);
        dueEndsOfTwo(4, 1.0, 1.0, MIN, MIN, 0.0, 2 * MIN);
        dueEndsOfTwo(4, -1.0, -1.0, MIN, MIN, -2 * MIN, -0.0);
    }

    /** DOWN and UP are the same of both zeros: no order of these may let another number come. */
    @Sentence(in = PLACE, says = "(-0.0 is less than 0.0).")
    static void zerosInProductsAndQuotients() {
        for (double zero : new double[] {0.0, -0.0}) {
            dueEndsOfTwo(4, zero, zero, -1.0, 1.0, -MIN, MIN);
            dueEndsOfTwo(4, -1.0, 1.0, zero, zero, -MIN, MIN);
            dueEndsOfTwo(4, zero, zero, 1.0, 2.0, -MIN, MIN);
            dueEndsOfTwo(4, zero, 1.0, 2.0, 3.0, -MIN, up(3.0));
            dueEndsOfTwo(4, -1.0, zero, 2.0, 3.0, down(-3.0), MIN);
            dueEndsOfTwo(5, zero, zero, 1.0, 2.0, -MIN, MIN);
            dueEndsOfTwo(5, zero, zero, -2.0, -1.0, -MIN, MIN);
            dueEndsOfTwo(5, zero, 1.0, 2.0, 4.0, -MIN, up(0.5));
        }
        dueEndsOfTwo(6, -0.0, -0.0, 0.0, 0.0, -0.0, -0.0);
        dueEndsOfTwo(6, 0.0, 0.0, -0.0, -0.0, -0.0, -0.0);
        dueEndsOfTwo(7, -0.0, -0.0, 0.0, 0.0, 0.0, 0.0);
        dueEndsOfTwo(7, 0.0, 0.0, -0.0, -0.0, 0.0, 0.0);
    }

    @Sentence(in = PLACE, says = "5: if bl is not above 0 and bh not below 0 THE WHOLE LINE,")
    static void kind5ByWhatReaches0IsTheWholeLine() {
        dueWholeLineOfTwo(5, 2.0, 3.0, -1.0, 1.0);
        dueWholeLineOfTwo(5, 2.0, 3.0, 0.0, 1.0);
        dueWholeLineOfTwo(5, 2.0, 3.0, -0.0, 1.0);
        dueWholeLineOfTwo(5, 2.0, 3.0, -1.0, 0.0);
        dueWholeLineOfTwo(5, 2.0, 3.0, -1.0, -0.0);
        dueWholeLineOfTwo(5, 2.0, 3.0, 0.0, 0.0);
        dueWholeLineOfTwo(5, 2.0, 3.0, -0.0, -0.0);
        dueWholeLineOfTwo(5, 2.0, 3.0, -INF, INF);
        dueWholeLineOfTwo(5, 2.0, 3.0, 0.0, INF);
        dueWholeLineOfTwo(5, 2.0, 3.0, -INF, -0.0);
        dueEndsOfTwo(5, 2.0, 3.0, MIN, 1.0, down(2.0), INF);
        dueEndsOfTwo(5, 2.0, 3.0, -1.0, -MIN, -INF, up(-2.0));
    }

    @Sentence(in = PLACE, says = "else likewise of al / bl, al / bh, ah / bl, ah / bh.")
    static void kind5TakesTheLeastAndTheGreatestQuotient() {
        dueEndsOfTwo(5, 2.0, 3.0, 5.0, 8.0, down(0.25), up(3.0 / 5.0));
        dueEndsOfTwo(5, -3.0, 2.0, 5.0, 8.0, down(-3.0 / 5.0), up(2.0 / 5.0));
        dueEndsOfTwo(5, -3.0, -2.0, 5.0, 8.0, down(-3.0 / 5.0), up(-0.25));
        dueEndsOfTwo(5, 2.0, 3.0, -8.0, -5.0, down(-3.0 / 5.0), up(-0.25));
        dueEndsOfTwo(5, -3.0, 2.0, -8.0, -5.0, down(-2.0 / 5.0), up(3.0 / 5.0));
        dueEndsOfTwo(5, -3.0, -2.0, -8.0, -5.0, down(0.25), up(3.0 / 5.0));
        dueEndsOfTwo(5, 2.0, 3.0, 1.0, INF, -MIN, up(3.0));
        dueEndsOfTwo(5, 1.0, INF, 2.0, 4.0, down(0.25), INF);
        dueEndsOfTwo(5, 1.0, 1.0, MIN, MIN, MAX, INF);
        dueEndsOfTwo(5, 1.0, 1.0, INF, INF, -MIN, MIN);
    }

    @Sentence(in = PLACE, says = AS_THE_NODE_MAKES)
    static void kind6TakesTheLesserEnds() {
        dueEndsOfTwo(6, -3.0, 2.0, 0.5, 4.0, -3.0, 2.0);
        dueEndsOfTwo(6, 1.0, 5.0, 0.5, 4.0, 0.5, 4.0);
        dueEndsOfTwo(6, 1.0, 3.0, -INF, INF, -INF, 3.0);
        dueEndsOfTwo(6, -0.0, 3.0, 0.0, 0.0, -0.0, 0.0);
    }

    @Sentence(in = PLACE, says = AS_THE_NODE_MAKES)
    static void kind7TakesTheGreaterEnds() {
        dueEndsOfTwo(7, -3.0, 2.0, 0.5, 4.0, 0.5, 4.0);
        dueEndsOfTwo(7, 1.0, 5.0, 0.5, 4.0, 1.0, 5.0);
        dueEndsOfTwo(7, 1.0, 3.0, -INF, INF, 1.0, INF);
        dueEndsOfTwo(7, -3.0, -0.0, 0.0, 0.0, 0.0, 0.0);
    }

    @Sentence(in = PLACE, says = AS_THE_NODE_MAKES)
    static void kind11TakesTheFloorsOfTheEnds() {
        dueEndsOfOne(11, -2.5, 2.5, -3.0, 2.0);
        dueEndsOfOne(11, -0.0, 0.5, -0.0, 0.0);
        dueEndsOfOne(11, -2.0, 2.0, -2.0, 2.0);
        dueEndsOfOne(11, -INF, INF, -INF, INF);
    }

    @Sentence(in = PLACE, says = AS_THE_NODE_MAKES)
    static void kind13TakesTheEndsAsFloatsHaveThem() {
        dueEndsOfOne(13, 0.1, 0.7, (double) 0.1f, (double) 0.7f);
        dueEndsOfOne(13, -1e300, 1e300, -INF, INF);
        dueEndsOfOne(13, 1e39, 1e39, INF, INF);
        dueEndsOfOne(13, -MIN, MIN, -0.0, 0.0);
    }

    @Sentence(in = PLACE, says = AS_THE_NODE_MAKES)
    static void kind14TakesTheSignsOfTheEnds() {
        dueEndsOfOne(14, -3.0, 2.0, -1.0, 1.0);
        dueEndsOfOne(14, -0.0, 2.0, -0.0, 1.0);
        dueEndsOfOne(14, -2.0, 0.0, -1.0, 0.0);
        dueEndsOfOne(14, -INF, INF, -1.0, 1.0);
    }

    @Sentence(in = PLACE, says = AS_THE_NODE_MAKES)
    static void kind15TakesTheEndsAsIntsHaveThem() {
        dueEndsOfOne(15, -2.5, 2.5, -2.0, 2.0);
        dueEndsOfOne(15, -0.5, 0.5, 0.0, 0.0);
        dueEndsOfOne(15, -1e10, 1e10, -2147483648.0, 2147483647.0);
        dueEndsOfOne(15, -INF, INF, -2147483648.0, 2147483647.0);
    }

    @Sentence(in = PLACE, says = AS_THE_NODE_MAKES)
    static void kind16TakesTheEndsAsLongsHaveThem() {
        dueEndsOfOne(16, -2.5, 2.5, -2.0, 2.0);
        dueEndsOfOne(16, -0.5, 1e10, 0.0, 1e10);
        dueEndsOfOne(16, -1e300, 1e300, -0x1p63, 0x1p63);
        dueEndsOfOne(16, -INF, INF, -0x1p63, 0x1p63);
    }

    @Sentence(in = PLACE, says = "12: -ah, -al.")
    static void kind12TurnsTheEnds() {
        dueEndsOfOne(12, -3.0, 2.0, -2.0, 3.0);
        dueEndsOfOne(12, 0.0, 1.0, -1.0, -0.0);
        dueEndsOfOne(12, -1.0, -0.0, 0.0, 1.0);
        dueEndsOfOne(12, 5.0, INF, -INF, -5.0);
        dueEndsOfOne(12, INF, INF, -INF, -INF);
        dueEndsOfOne(12, -INF, INF, -INF, INF);
    }

    @Sentence(in = PLACE, says = "8: as a has it, if al is not below 0;")
    static void kind8IsAsAHasItFrom0On() {
        dueEndsOfOne(8, 0.5, 4.0, 0.5, 4.0);
        dueEndsOfOne(8, 0.0, 4.0, 0.0, 4.0);
        dueEndsOfOne(8, -0.0, 4.0, -0.0, 4.0);
        dueEndsOfOne(8, 0.0, 0.0, 0.0, 0.0);
        dueEndsOfOne(8, -0.0, -0.0, -0.0, -0.0);
        dueEndsOfOne(8, MIN, INF, MIN, INF);
    }

    @Sentence(in = PLACE, says = "-ah, -al, if ah is not above 0;")
    static void kind8TurnsWhatIsNotAbove0() {
        dueEndsOfOne(8, -2.0, -1.0, 1.0, 2.0);
        dueEndsOfOne(8, -2.0, 0.0, -0.0, 2.0);
        dueEndsOfOne(8, -2.0, -0.0, 0.0, 2.0);
        dueEndsOfOne(8, -MIN, 0.0, -0.0, MIN);
        dueEndsOfOne(8, -INF, -3.0, 3.0, INF);
        dueEndsOfOne(8, -INF, -INF, INF, INF);
    }

    @Sentence(in = PLACE, says = "else 0.0 and Math.max(-al, ah).")
    static void kind8Round0IsFrom0() {
        dueEndsOfOne(8, -3.0, 2.0, 0.0, 3.0);
        dueEndsOfOne(8, -2.0, 3.0, 0.0, 3.0);
        dueEndsOfOne(8, -2.0, 2.0, 0.0, 2.0);
        dueEndsOfOne(8, -0.25, 0.5, 0.0, 0.5);
        dueEndsOfOne(8, -MIN, MIN, 0.0, MIN);
        dueEndsOfOne(8, -INF, 1.0, 0.0, INF);
        dueEndsOfOne(8, -INF, INF, 0.0, INF);
    }

    @Sentence(in = PLACE, says = "9: if al is below 0.0 THE WHOLE LINE;")
    static void kind9FromBelow0IsTheWholeLine() {
        dueEndsOfOne(9, -3.0, 4.0, -INF, INF);
        dueEndsOfOne(9, -MIN, 4.0, -INF, INF);
        dueEndsOfOne(9, -3.0, -2.0, -INF, INF);
        dueEndsOfOne(9, -INF, INF, -INF, INF);
        dueEndsOfOne(9, -0.0, 4.0, 0.0, up(2.0));
        dueEndsOfOne(9, 0.0, 4.0, 0.0, up(2.0));
    }

    @Sentence(in = PLACE, says = "else DOWN(Math.sqrt(al)), UP(Math.sqrt(ah)).")
    static void kind9TakesTheRootsOfTheEnds() {
        dueEndsOfOne(9, 4.0, 9.0, down(2.0), up(3.0));
        dueEndsOfOne(9, 2.0, 3.0, down(Math.sqrt(2.0)), up(Math.sqrt(3.0)));
        dueEndsOfOne(9, MIN, MIN, down(0x1p-537), up(0x1p-537));
        dueEndsOfOne(9, 4.0, INF, down(2.0), INF);
        dueEndsOfOne(9, INF, INF, MAX, INF);
    }

    @Sentence(in = PLACE, says = "10: of the ENCLOSURE that 8 would have: DOWN(l * l), UP(h * h).")
    static void kind10SquaresTheMagnitudesEnds() {
        dueEndsOfOne(10, 3.0, 4.0, down(9.0), up(16.0));
        dueEndsOfOne(10, -4.0, -3.0, down(9.0), up(16.0));
        dueEndsOfOne(10, -4.0, 3.0, 0.0, up(16.0));
        dueEndsOfOne(10, -3.0, 4.0, 0.0, up(16.0));
        dueEndsOfOne(10, -4.0, 0.0, 0.0, up(16.0));
        dueEndsOfOne(10, MAX, MAX, MAX, INF);
        dueEndsOfOne(10, -INF, -3.0, down(9.0), INF);
        dueEndsOfOne(10, -INF, INF, 0.0, INF);
    }

    @Sentence(in = PLACE, says = "Of 8, 9, 10 a low end below 0.0 is 0.0")
    static void lowEndsBelow0Are0() {
        dueEndsOfOne(9, 0.0, 0.0, 0.0, MIN);
        dueEndsOfOne(9, -0.0, -0.0, 0.0, MIN);
        dueEndsOfOne(10, 0.0, 0.0, 0.0, MIN);
        dueEndsOfOne(10, -0.0, -0.0, 0.0, MIN);
        dueEndsOfOne(10, -1.0, 1.0, 0.0, up(1.0));
        dueEndsOfOne(10, 1e-200, 2e-200, 0.0, MIN);
        dueEndsOfOne(8, -5.0, 1.0, 0.0, 5.0);
    }

    @Sentence(in = PLACE, says = "(but of THE WHOLE LINE).")
    static void theLowEndOfTheWholeLineStays() {
        dueEndsOfOne(9, -1.0, 1.0, -INF, INF);
        dueEndsOfOne(9, -INF, INF, -INF, INF);
        BoxIntegrals x = drawn(-1.0, 1.0);
        int root = x.node(9, 0, 0, 0L);
        int sum = x.node(2, root, 0, 0L);
        x.begin();
        dueEnds("a root and more", x, 0, sum, -INF, INF);
        dueEnds("a root's magnitude", x, 0, x.node(8, root, 0, 0L), 0.0, INF);
        dueEnds("a root's square", x, 0, x.node(10, root, 0, 0L), 0.0, INF);
        dueEnds("a root's root", x, 0, x.node(9, root, 0, 0L), -INF, INF);
    }

    @Sentence(in = PLACE, says = "If an end, or one of four, is not a number, it is THE WHOLE LINE.")
    static void anEndThatIsNotANumber() {
        dueWholeLineOfTwo(2, -INF, 2.0, INF, INF);
        dueWholeLineOfTwo(2, 3.0, INF, -INF, -INF);
        dueWholeLineOfTwo(2, INF, INF, -INF, -INF);
        dueWholeLineOfTwo(3, -INF, 2.0, -INF, -INF);
        dueWholeLineOfTwo(3, 3.0, INF, INF, INF);
        dueWholeLineOfTwo(3, INF, INF, INF, INF);
    }

    @Sentence(in = PLACE, says = "If an end, or one of four, is not a number, it is THE WHOLE LINE.")
    static void oneOfFourThatIsNotANumber() {
        dueWholeLineOfTwo(4, 0.0, 1.0, -INF, 2.0);
        dueWholeLineOfTwo(4, 0.0, 1.0, 2.0, INF);
        dueWholeLineOfTwo(4, -1.0, 0.0, -INF, 2.0);
        dueWholeLineOfTwo(4, -1.0, 0.0, 2.0, INF);
        dueWholeLineOfTwo(4, -0.0, -0.0, INF, INF);
        dueWholeLineOfTwo(4, 2.0, INF, -1.0, 0.0);
        dueWholeLineOfTwo(5, -INF, 3.0, -INF, -1.0);
        dueWholeLineOfTwo(5, -INF, 3.0, 1.0, INF);
        dueWholeLineOfTwo(5, 2.0, INF, -INF, -1.0);
        dueWholeLineOfTwo(5, 2.0, INF, 1.0, INF);
        dueWholeLineOfTwo(5, INF, INF, INF, INF);
    }
}
