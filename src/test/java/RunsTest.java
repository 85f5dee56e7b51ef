/** The sentences of "Terms", from its number 2 on: BOXES, their KINDS and WEIGHTS, STEPS, MASSES and ODDS. */
public final class RunsTest extends SentenceTests {
    private static final String PLACE = "Terms";

    public static void main(String[] args) throws Exception {
        runAll(RunsTest.class);
    }

    /** A RUN over -4 to 4 that asks whether the number less 1 is above 0. */
    private static BoxIntegrals aboveOne() {
        BoxIntegrals x = drawn(-4.0, 4.0);
        x.role(1, x.node(3, 0, number(x, 1.0), 0L));
        x.begin();
        return x;
    }

    /** What one DRAW makes of a WEIGHT's ends: its width's ends, and those of its DENSITY. */
    private static double[] times(double[] weight, double low, double high) {
        return new double[] {Math.max(0.0, down(weight[0] * low)), up(weight[1] * high)};
    }

    @Sentence(in = PLACE, says = "2 A RUN has BOXES 0, 1, .., 100 at most;")
    static void aRunHas100BoxesAtMost() {
        BoxIntegrals x = openRun(0.0, 1.0);
        due("99 steps", x.run(99), 99);
        due("boxes", x.boxes(), 100);
        due("box 99", x.kind(99), OPEN);
        due("box 100", x.kind(100), UNKNOWN);
        x.run(99);
        due("boxes still", x.boxes(), 100);
        due("the last box's hi", x.where(x.side(99, 0, 1), 0L, 0L) >= 0 ? 1 : 0, 1);
    }

    @Sentence(in = PLACE, says = "at first one, the SPANS.")
    static void atFirstThereIsOneBoxTheSpans() {
        BoxIntegrals x = openRun(-0.0, 1.0, -5.0, MAX, -MIN, MIN);
        due("boxes", x.boxes(), 1);
        dueSide("at first", x, 0, 0, -0.0, 1.0);
        dueSide("at first", x, 0, 1, -5.0, MAX);
        dueSide("at first", x, 0, 2, -MIN, MIN);
    }

    @Sentence(in = PLACE, says = "THE CONDITION, THE QUESTION, and for each DRAW its DENSITY may be a NODE")
    static void rolesMayBeNodes() {
        BoxIntegrals x = drawn(1.0, 2.0, 4.0, 5.0, 6.0, 7.0);
        int never = number(x, -1.0);
        x.role(0, never);
        x.begin();
        due("a condition", x.kind(0), OUT);
        x.role(0, NONE);
        x.role(1, never);
        x.begin();
        due("a question", x.kind(0), NO);
        double[] one = times(new double[] {1.0, 1.0}, down(1.0), up(1.0));
        double[] two = times(one, down(1.0), up(1.0));
        double[] three = times(two, down(1.0), up(1.0));
        dueWeight("no density", x, 0, three[0], three[1]);
        x.role(2, 1);
        x.begin();
        double[] first = times(times(times(one, 4.0, 5.0), down(1.0), up(1.0)), down(1.0), up(1.0));
        dueWeight("a density of draw 0", x, 0, first[0], first[1]);
        x.role(2, NONE);
        x.role(3, 1);
        x.begin();
        double[] second = times(times(two, 4.0, 5.0), down(1.0), up(1.0));
        dueWeight("a density of draw 1", x, 0, second[0], second[1]);
        x.role(3, NONE);
        x.role(4, 1);
        x.begin();
        double[] third = times(three, 4.0, 5.0);
        dueWeight("a density of draw 2", x, 0, third[0], third[1]);
    }

    @Sentence(in = PLACE, says = "(at first none;")
    static void atFirstThereIsNoRole() {
        BoxIntegrals x = drawn(0.0, 1.0, 0.0, 1.0, 0.0, 1.0);
        for (int role = 0; role <= 4; role++) {
            due("role " + role, x.role(role, 0), NONE);
        }
        BoxIntegrals y = new BoxIntegrals();
        due("the condition without draws", y.role(0, NONE), NONE);
        due("the question without draws", y.role(1, NONE), NONE);
    }

    @Sentence(in = PLACE, says = "all are gone when a DRAW comes).")
    static void rolesAreGoneWhenADrawComes() {
        BoxIntegrals x = drawn(0.0, 1.0, 0.0, 1.0);
        for (int role = 0; role <= 3; role++) {
            x.role(role, 1);
        }
        x.draw(b(0.0), b(1.0));
        for (int role = 0; role <= 4; role++) {
            due("role " + role, x.role(role, 0), NONE);
        }
        BoxIntegrals y = new BoxIntegrals();
        y.role(0, number(y, -1.0));
        y.role(1, 0);
        y.draw(b(0.0), b(1.0));
        y.begin();
        due("a kind without roles", y.kind(0), YES);
        due("the condition", y.role(0, NONE), NONE);
        due("the question", y.role(1, NONE), NONE);
        due("the node is still there", y.count(1), 1);
    }

    /** The KIND of a first BOX whose CONDITION has the ENCLOSURE lo to hi. */
    private static void dueKindUnder(double lo, double hi, int want) {
        BoxIntegrals x = drawn(0.0, 1.0);
        int node = enclosing(x, lo, hi);
        x.role(0, node);
        x.begin();
        due("kind under " + lo + " to " + hi, x.kind(0), want);
    }

    @Sentence(in = PLACE, says = "A NODE HOLDS over a BOX surely, if its low end is above 0.0,")
    static void aNodeHoldsSurelyIfItsLowEndIsAbove0() {
        dueKindUnder(1.0, 2.0, YES);
        dueKindUnder(MIN, 2.0, YES);
        dueKindUnder(MIN, MIN, YES);
        dueKindUnder(1.0, INF, YES);
        dueKindUnder(INF, INF, YES);
        dueKindUnder(0.0, 2.0, OPEN);
        dueKindUnder(-0.0, 2.0, OPEN);
        dueKindUnder(-MIN, 2.0, OPEN);
        dueKindUnder(-INF, INF, OPEN);
    }

    @Sentence(in = PLACE, says = "surely not, if its high end is not above 0.0;")
    static void aNodeSurelyDoesNotHoldIfItsHighEndIsNotAbove0() {
        dueKindUnder(-2.0, -1.0, OUT);
        dueKindUnder(-2.0, 0.0, OUT);
        dueKindUnder(-2.0, -0.0, OUT);
        dueKindUnder(0.0, 0.0, OUT);
        dueKindUnder(-0.0, -0.0, OUT);
        dueKindUnder(-INF, -INF, OUT);
        dueKindUnder(-2.0, MIN, OPEN);
        dueKindUnder(-0.0, MIN, OPEN);
        dueKindUnder(-INF, MIN, OPEN);
    }

    /** The KIND of a first BOX by a CONDITION and a QUESTION: 1 sure, -1 surely not, 0 neither, NONE none. */
    private static void dueKindBy(int condition, int question, int want) {
        BoxIntegrals x = drawn(1.0, 2.0);
        int[] nodes = {number(x, -1.0), unsure(x), number(x, 1.0)};
        x.role(0, condition == NONE ? NONE : nodes[condition + 1]);
        x.role(1, question == NONE ? NONE : nodes[question + 1]);
        x.begin();
        due("kind by condition " + condition + ", question " + question, x.kind(0), want);
    }

    @Sentence(in = PLACE, says = "none HOLDS surely.")
    static void noneHoldsSurely() {
        dueKindBy(NONE, NONE, YES);
        dueKindBy(NONE, 1, YES);
        dueKindBy(NONE, -1, NO);
        dueKindBy(NONE, 0, OPEN);
        dueKindBy(1, NONE, YES);
        dueKindBy(-1, NONE, OUT);
        dueKindBy(0, NONE, OPEN);
    }

    @Sentence(in = PLACE, says = "KINDS of a BOX: OUT 0, if THE CONDITION surely does not hold;")
    static void outIfTheConditionSurelyDoesNotHold() {
        dueKindBy(-1, 1, 0);
        dueKindBy(-1, -1, 0);
        dueKindBy(-1, 0, 0);
        dueKindBy(-1, NONE, 0);
    }

    @Sentence(in = PLACE, says = "YES 1, if it surely does, and THE QUESTION, too;")
    static void yesIfBothSurelyHold() {
        dueKindBy(1, 1, 1);
        dueKindBy(1, NONE, 1);
        dueKindBy(NONE, 1, 1);
    }

    @Sentence(in = PLACE, says = "NO 2, if it surely does, and THE QUESTION surely not;")
    static void noIfTheQuestionSurelyDoesNotHold() {
        dueKindBy(1, -1, 2);
        dueKindBy(NONE, -1, 2);
    }

    @Sentence(in = PLACE, says = "else OPEN 3.")
    static void openElse() {
        dueKindBy(1, 0, 3);
        dueKindBy(0, 1, 3);
        dueKindBy(0, -1, 3);
        dueKindBy(0, 0, 3);
    }

    @Sentence(in = PLACE, says = "THE WEIGHT of a BOX: from (1.0, 1.0) on, for each DRAW in order twice:")
    static void aWeightIsMadeDrawByDraw() {
        BoxIntegrals x = drawn(0.0, 1.0);
        x.begin();
        dueWeight("one draw", x, 0, down(down(1.0)), up(up(1.0)));

        BoxIntegrals y = drawn(0.0, 1e200, 0.0, 1e200);
        int small = number(y, 1e-200);
        y.role(2, small);
        y.role(3, small);
        y.begin();
        double[] first = times(times(new double[] {1.0, 1.0}, down(1e200), up(1e200)), 1e-200, 1e-200);
        double[] both = times(times(first, down(1e200), up(1e200)), 1e-200, 1e-200);
        dueWeight("widths and densities by turns", y, 0, both[0], both[1]);

        BoxIntegrals z = drawn(0.0, 0x1p-1000, 0.0, 0x1p-1000, 0.0, 0x1p1000);
        z.begin();
        dueWeight("in order", z, 0, 0.0, up(MIN * up(0x1p1000)));
    }

    /** The WEIGHT of a first BOX of one DRAW without a DENSITY. */
    private static void dueWidth(double lo, double hi, double low, double high) {
        BoxIntegrals x = drawn(lo, hi);
        x.begin();
        dueWeight("from " + lo + " to " + hi, x, 0, low, high);
    }

    @Sentence(in = PLACE, says = "times its width (DOWN(hi - lo), UP(hi - lo)),")
    static void aWidthIsPutOutward() {
        dueWidth(1.0, 4.0, down(down(3.0)), up(up(3.0)));
        dueWidth(-0.1, 0.2, down(down(0.2 + 0.1)), up(up(0.2 + 0.1)));
        dueWidth(-1e-20, 1.0, down(down(1.0)), up(up(1.0)));
        dueWidth(-MAX, MAX, down(MAX), INF);
        dueWidth(0.0, MAX, down(down(MAX)), INF);
        dueWidth(0.0, MIN, 0.0, 3 * MIN);
        dueWidth(0.0, 2 * MIN, 0.0, 4 * MIN);
        dueWidth(0.0, 4 * MIN, 2 * MIN, 6 * MIN);
    }

    @Sentence(in = PLACE, says = "then times its DENSITY over the BOX, if it has one")
    static void aDensityIsTakenOverTheBox() {
        BoxIntegrals x = drawn(1.0, 3.0, 0.0, 1.0);
        x.role(1, unsure(x));
        x.role(3, 0);
        x.begin();
        x.run(1);
        double[] widths = times(times(new double[] {1.0, 1.0}, down(1.0), up(1.0)), down(1.0), up(1.0));
        double[] lower = times(widths, 1.0, 2.0);
        double[] upper = times(widths, 2.0, 3.0);
        dueWeight("the lower half", x, 0, lower[0], lower[1]);
        dueWeight("the upper half", x, 1, upper[0], upper[1]);
    }

    /** The WEIGHT of a first BOX from 0 to 1, with a DENSITY from lo to hi. */
    private static void dueDensity(double lo, double hi, double low, double high) {
        BoxIntegrals x = drawn(0.0, 1.0);
        int density = enclosing(x, lo, hi);
        x.role(2, density);
        x.begin();
        if (x.count(0) == 1) {
            dueWeight("density " + lo + " to " + hi, x, 0, low, high);
            return;
        }
        double[] all = times(new double[] {low, high}, down(hi - lo), up(hi - lo));
        dueWeight("density " + lo + " to " + hi, x, 0, all[0], all[1]);
    }

    @Sentence(in = PLACE, says = "(each: an end below 0.0 is 0.0).")
    static void densityEndsBelow0Are0() {
        dueDensity(-3.0, -3.0, 0.0, MIN);
        dueDensity(-3.0, -2.0, 0.0, MIN);
        dueDensity(-MIN, -MIN, 0.0, MIN);
        dueDensity(-INF, -INF, 0.0, MIN);
        dueDensity(-3.0, 2.0, 0.0, up(up(up(1.0)) * 2.0));
        dueDensity(-INF, 2.0, 0.0, up(up(up(1.0)) * 2.0));
        dueDensity(-INF, INF, 0.0, INF);
        dueDensity(-0.0, -0.0, 0.0, MIN);
        BoxIntegrals x = drawn(0.0, 1.0, 0.0, 1.0);
        int minus = number(x, -3.0);
        x.role(2, minus);
        x.role(3, minus);
        x.begin();
        dueWeight("two densities below 0.0", x, 0, 0.0, MIN);
        dueWidth(-MIN, 0.0, 0.0, 3 * MIN);
    }

    @Sentence(in = PLACE, says = "(l, h) times (m, n): DOWN(l * m), below 0.0 0.0,")
    static void aLowProductIsPutDownButNotBelow0() {
        dueDensity(2.0, 4.0, down(down(down(1.0)) * 2.0), up(up(up(1.0)) * 4.0));
        dueDensity(0.0, 1.0, 0.0, up(up(up(1.0)) * 1.0));
        dueDensity(0.0, 0.0, 0.0, MIN);
        dueDensity(MIN, MIN, 0.0, 2 * MIN);
        dueDensity(3 * MIN, 3 * MIN, 2 * MIN, 4 * MIN);
        dueDensity(MAX, MAX, down(down(down(1.0)) * MAX), INF);
        dueDensity(INF, INF, MAX, INF);
    }

    @Sentence(in = PLACE, says = "or 0.0 if that is not a number;")
    static void aLowProductThatIsNotANumberIs0() {
        BoxIntegrals x = drawn(0.0, 1.0, 0.0, 1.0);
        x.role(2, number(x, 0.0));
        x.role(3, number(x, INF));
        x.begin();
        dueWeight("0.0 by infinite", x, 0, 0.0, INF);
        BoxIntegrals y = drawn(0.0, MIN);
        y.role(2, number(y, INF));
        y.begin();
        dueWeight("a width of 0.0 by infinite", y, 0, 0.0, INF);
    }

    @Sentence(in = PLACE, says = "UP(h * n), infinite, if that is not a number.")
    static void aHighProductThatIsNotANumberIsInfinite() {
        BoxIntegrals x = drawn(0.0, 1.0, 0.0, 1.0);
        x.role(2, number(x, INF));
        x.role(3, number(x, 0.0));
        x.begin();
        dueWeight("infinite by 0.0", x, 0, 0.0, INF);
        x.role(3, number(x, -2.0));
        x.begin();
        dueWeight("infinite by below 0.0", x, 0, 0.0, INF);
        BoxIntegrals y = drawn(-MAX, MAX);
        y.role(2, number(y, 0.0));
        y.begin();
        dueWeight("a width without end by 0.0", y, 0, 0.0, INF);
    }

    @Sentence(in = PLACE, says = "TO SPLIT a BOX: the side with the greatest hi - lo")
    static void theWidestSideIsSplit() {
        BoxIntegrals x = openRun(0.0, 1.0, 4.0, 6.0, 0.0, 3.0);
        x.run(1);
        dueSide("the widest", x, 0, 2, 0.0, 1.5);
        dueSide("another", x, 0, 1, 4.0, 6.0);
        x.run(1);
        dueSide("the widest then", x, 0, 1, 4.0, 5.0);
        dueSide("another", x, 0, 2, 0.0, 1.5);
        BoxIntegrals y = openRun(0.0, 1.0, 0.0, up(1.0));
        y.run(1);
        dueSide("wider by one step", y, 0, 0, 0.0, 1.0);
        dueSide("wider by one step", y, 0, 1, 0.0, up(1.0) / 2.0);
        BoxIntegrals z = openRun(-5.0, -4.0, -3.0, -1.0);
        z.run(1);
        dueSide("of sides below 0", z, 0, 1, -3.0, -2.0);
        BoxIntegrals w = drawn(-4.0, 4.0, 0.0, 3.0);
        w.role(1, w.node(3, 0, number(w, 1.0), 0L));
        w.begin();
        w.run(3);
        dueSide("a box that is not open", w, 0, 1, 0.0, 3.0);
        dueSide("an open one, split by draw 1", w, 1, 1, 0.0, 1.5);
        w.run(1);
        dueSide("then by draw 0, its own widest", w, 1, 0, 0.0, 1.0);
        dueSide("then by draw 0, its own widest", w, 1, 1, 0.0, 1.5);
    }

    @Sentence(in = PLACE, says = "(the least DRAW of several)")
    static void theLeastDrawOfSeveralIsSplit() {
        BoxIntegrals x = openRun(0.0, 1.0, 4.0, 6.0, 0.0, 2.0);
        x.run(1);
        dueSide("of 1 and 2", x, 0, 1, 4.0, 5.0);
        dueSide("of 1 and 2", x, 0, 2, 0.0, 2.0);
        BoxIntegrals y = openRun(0.0, 1.0, 0.0, 1.0, 0.0, 1.0);
        y.run(1);
        dueSide("of all", y, 0, 0, 0.0, 0.5);
        BoxIntegrals z = openRun(0.0, 1.0, -1e-20, 1.0);
        z.run(1);
        dueSide("as wide when rounded", z, 0, 0, 0.0, 0.5);
        dueSide("as wide when rounded", z, 0, 1, -1e-20, 1.0);
    }

    /** Where a first BOX of one side is split. */
    private static void dueSplit(double lo, double hi, double want) {
        BoxIntegrals x = openRun(lo, hi);
        due("from " + lo + " to " + hi, x.run(1), 1);
        dueNumber("middle of " + lo + " and " + hi, x.side(0, 0, 1), want);
    }

    @Sentence(in = PLACE, says = "at m = lo + (hi - lo) / 2.0:")
    static void aSideIsSplitInItsMiddle() {
        dueSplit(1.0, 4.0, 2.5);
        dueSplit(-3.0, 1.0, -1.0);
        dueSplit(-1.0, 1.0, 0.0);
        dueSplit(0x1p1023, MAX, 0x1p1023 + (MAX - 0x1p1023) / 2.0);
        dueSplit(MIN, 4 * MIN, 3 * MIN);
        dueSplit(-4 * MIN, -MIN, -2 * MIN);
        dueSplit(0.1, 0.7, 0.1 + (0.7 - 0.1) / 2.0);
        dueSplit(1.0, up(up(up(1.0))), up(up(1.0)));
        dueSplit(-0.0, 2 * MIN, MIN);
    }

    @Sentence(in = PLACE, says = "this BOX has lo to m then, a new one (the next number) m to hi;")
    static void aSplitMakesANewBoxOfTheUpperHalf() {
        BoxIntegrals x = openRun(0.0, 4.0, 5.0, 6.0);
        x.run(1);
        due("boxes", x.boxes(), 2);
        dueSide("this one", x, 0, 0, 0.0, 2.0);
        dueSide("the new one", x, 1, 0, 2.0, 4.0);
        dueSide("this one's other side", x, 0, 1, 5.0, 6.0);
        dueSide("the new one's other side", x, 1, 1, 5.0, 6.0);
        x.run(1);
        due("boxes", x.boxes(), 3);
        dueSide("this one again", x, 0, 0, 0.0, 1.0);
        dueSide("the one between", x, 1, 0, 2.0, 4.0);
        dueSide("the next number", x, 2, 0, 1.0, 2.0);
        dueSide("its other side", x, 2, 1, 5.0, 6.0);
    }

    @Sentence(in = PLACE, says = "both have their own KIND, WEIGHT.")
    static void bothHalvesHaveTheirOwnKindAndWeight() {
        BoxIntegrals x = aboveOne();
        due("at first", x.kind(0), OPEN);
        x.run(1);
        due("the lower half", x.kind(0), NO);
        due("the upper half", x.kind(1), OPEN);
        dueWeight("the lower half", x, 0, down(down(4.0)), up(up(4.0)));
        dueWeight("the upper half", x, 1, down(down(4.0)), up(up(4.0)));
        x.run(1);
        due("the middle", x.kind(1), OPEN);
        due("the upper quarter", x.kind(2), YES);
        dueWeight("the middle", x, 1, down(down(2.0)), up(up(2.0)));
        dueWeight("the upper quarter", x, 2, down(down(2.0)), up(up(2.0)));
    }

    /** One DRAW alone: 1 if its BOX is TIGHT, 0 if it is not. */
    private static void dueTight(double lo, double hi, int want) {
        BoxIntegrals x = openRun(lo, hi);
        due("tight from " + lo + " to " + hi, x.count(4), want);
        due("steps from " + lo + " to " + hi, x.run(1), 1 - want);
    }

    @Sentence(in = PLACE, says = "A BOX is TIGHT, if m is not above lo,")
    static void aBoxIsTightIfItsMiddleIsNotAboveLo() {
        dueTight(1.0, up(1.0), 1);
        dueTight(0.0, MIN, 1);
        dueTight(-0.0, MIN, 1);
        dueTight(-MIN, 0.0, 1);
        dueTight(-MIN, -0.0, 1);
        dueTight(0.0, 2 * MIN, 0);
        dueTight(-MIN, MIN, 0);
        dueTight(1.0, up(up(1.0)), 0);
    }

    @Sentence(in = PLACE, says = "or not below hi.")
    static void aBoxIsTightIfItsMiddleIsNotBelowHi() {
        dueTight(up(1.0), up(up(1.0)), 1);
        dueTight(down(-1.0), -1.0, 1);
        dueTight(-MAX, MAX, 1);
        dueTight(-MAX, 0x1p1023, 1);
        dueTight(-0x1p1022, MAX, 1);
        dueTight(0.0, MAX, 0);
        dueTight(-0x1p1022, 0x1p1023, 0);
        BoxIntegrals x = openRun(0.0, 1.0, 1e20, up(1e20));
        due("tight by its widest side", x.count(4), 1);
        due("though another could be split", x.run(9), 0);
        BoxIntegrals y = openRun(0.0, 1.0, -MAX, MAX, -MAX, MAX);
        due("tight by one without end", y.count(4), 1);
        due("though another could be split", y.run(9), 0);
    }

    @Sentence(in = PLACE, says = "A STEP splits, of the OPEN BOXES that are not TIGHT,")
    static void aStepSplitsOpenBoxesThatAreNotTight() {
        BoxIntegrals x = aboveOne();
        x.run(1);
        due("a lighter open box is split", x.run(1), 1);
        dueSide("the one that is not open", x, 0, 0, -4.0, 0.0);
        dueSide("the open one", x, 1, 0, 0.0, 2.0);

        double three = 1.0 + 3 * Math.ulp(1.0);
        BoxIntegrals y = drawn(1.0, three);
        int square = y.node(10, y.node(3, 0, number(y, 1.0), 0L), 0, 0L);
        y.role(1, unsure(y));
        y.role(2, square);
        y.begin();
        y.run(1);
        dueSide("two steps wide", y, 0, 0, 1.0, up(up(1.0)));
        dueSide("one step wide", y, 1, 0, up(up(1.0)), three);
        dueTrue("the tight box is the heavier", d(y.weight(1, 1)) > d(y.weight(0, 1)));
        due("one box is tight", y.count(4), 1);
        due("the lighter box is split", y.run(9), 1);
        dueSide("the lighter box", y, 0, 0, 1.0, up(1.0));
        due("all are tight then", y.count(4), 3);
    }

    @Sentence(in = PLACE, says = "the one with the greatest high end of WEIGHT")
    static void aStepSplitsTheHeaviestByItsHighEnd() {
        BoxIntegrals x = drawn(-1.0, 3.0);
        int square = x.node(3, x.node(10, 0, 0, 0L), number(x, 5.0), 0L);
        int line = x.node(3, number(x, 2.0), 0, 0L);
        x.role(2, x.node(7, square, line, 0L));
        x.role(1, unsure(x));
        x.begin();
        x.run(1);
        dueTrue("box 0 has the greater low end", d(x.weight(0, 0)) > d(x.weight(1, 0)));
        dueTrue("box 1 has the greater high end", d(x.weight(1, 1)) > d(x.weight(0, 1)));
        x.run(1);
        dueSide("box 0 stays", x, 0, 0, -1.0, 1.0);
        dueSide("box 1 is split", x, 1, 0, 1.0, 2.0);
        BoxIntegrals y = openRun(0.0, 1.0);
        y.run(3);
        y.run(1);
        dueSide("box 0 is split first of four", y, 0, 0, 0.0, 0.125);
        y.run(1);
        dueSide("then box 1, as heavy as 2 and 3", y, 1, 0, 0.5, 0.625);
    }

    @Sentence(in = PLACE, says = "(the least number of several).")
    static void aStepSplitsTheLeastNumberOfSeveral() {
        BoxIntegrals x = openRun(0.0, 1.0);
        x.run(3);
        dueSide("after three steps", x, 0, 0, 0.0, 0.25);
        dueSide("after three steps", x, 1, 0, 0.5, 0.75);
        dueSide("after three steps", x, 2, 0, 0.25, 0.5);
        dueSide("after three steps", x, 3, 0, 0.75, 1.0);
        BoxIntegrals y = drawn(0.0, 1.0);
        y.role(1, unsure(y));
        y.role(2, number(y, INF));
        y.begin();
        y.run(3);
        dueSide("of weights without end box 0 alone", y, 0, 0, 0.0, 0.125);
        dueSide("of weights without end box 0 alone", y, 1, 0, 0.5, 1.0);
    }

    /** The sums of a KIND's WEIGHTS by rows of KIND, low end and high end; backwards, if the order is to be wrong. */
    private static double[] sums(double[][] boxes, int kind, boolean backwards) {
        double low = 0.0;
        double high = 0.0;
        for (int i = 0; i < boxes.length; i++) {
            double[] box = boxes[backwards ? boxes.length - 1 - i : i];
            if (box[0] == kind) {
                low = Math.max(0.0, down(low + box[1]));
                high = up(high + box[2]);
            }
        }
        return new double[] {low, high};
    }

    private static void dueMass(String what, BoxIntegrals x, int kind, double low, double high) {
        dueNumber(what + ", low mass of kind " + kind, x.mass(kind, 0), low);
        dueNumber(what + ", high mass of kind " + kind, x.mass(kind, 1), high);
    }

    @Sentence(in = PLACE, says = "THE MASS of a KIND: from (0.0, 0.0) on the sums, BOX by BOX of that KIND in order, DOWN and UP at each,")
    static void aMassIsSummedBoxByBox() {
        BoxIntegrals x = drawn(0.0, 1.0);
        x.begin();
        dueMass("one box", x, YES, down(down(down(1.0))), up(up(up(1.0))));
        for (int kind : new int[] {OUT, NO, OPEN}) {
            dueMass("no box", x, kind, 0.0, 0.0);
        }
        BoxIntegrals y = drawn(0.1, 0.9);
        y.role(0, y.node(3, 0, number(y, 0.2), 0L));
        y.role(1, y.node(3, 0, number(y, 0.6), 0L));
        y.role(2, y.node(10, y.node(10, 0, 0, 0L), 0, 0L));
        y.begin();
        y.run(80);
        double[][] boxes = new double[81][];
        for (int box = 0; box < boxes.length; box++) {
            boxes[box] = new double[] {y.kind(box), d(y.weight(box, 0)), d(y.weight(box, 1))};
        }
        for (int kind = 0; kind <= 3; kind++) {
            double[] due = sums(boxes, kind, false);
            double[] other = sums(boxes, kind, true);
            dueTrue("some box of kind " + kind, due[1] > 0.0);
            dueTrue("another order would sum kind " + kind + " to another mass", other[0] != due[0] || other[1] != due[1]);
            dueMass("of several", y, kind, due[0], due[1]);
        }
        BoxIntegrals z = drawn(0.0, 1.0);
        z.role(1, unsure(z));
        z.role(2, number(z, INF));
        z.begin();
        z.run(3);
        dueMass("without end", z, OPEN, MAX, INF);
        BoxIntegrals tight = openRun(0.0, MIN);
        due("a tight box", tight.count(4), 1);
        dueMass("of a tight box, too", tight, OPEN, 0.0, 4 * MIN);
    }

    @Sentence(in = PLACE, says = "a low end below 0.0 is 0.0.")
    static void aLowMassIsNotBelow0() {
        BoxIntegrals x = drawn(0.0, 1.0);
        x.role(1, unsure(x));
        x.role(2, number(x, 0.0));
        x.begin();
        dueMass("one weight of 0.0", x, OPEN, 0.0, 2 * MIN);
        x.run(3);
        dueMass("four weights of 0.0", x, OPEN, 0.0, 8 * MIN);
        x.role(2, number(x, 4 * MIN));
        x.begin();
        dueNumber("a least weight", x.weight(0, 0), 3 * MIN);
        dueMass("of a least weight", x, OPEN, 2 * MIN, 6 * MIN);
    }

    /** A RUN with BOXES of all four KINDS. */
    private static BoxIntegrals allKinds() {
        BoxIntegrals x = drawn(0.0, 1.0);
        x.role(0, x.node(3, 0, number(x, 0.3), 0L));
        x.role(1, x.node(3, 0, number(x, 0.6), 0L));
        x.role(2, 0);
        x.begin();
        x.run(12);
        return x;
    }

    @Sentence(in = PLACE, says = "THE ODDS: with Y, N, O of YES, NO, OPEN: low Yl / UP(UP(Yl + Nh) + Oh), DOWN;")
    static void theLowOdds() {
        BoxIntegrals x = allKinds();
        double y = d(x.mass(YES, 0));
        double n = d(x.mass(NO, 1));
        double o = d(x.mass(OPEN, 1));
        dueTrue("masses of all kinds", d(x.mass(OUT, 0)) > 0.0 && y > 0.0 && d(x.mass(NO, 0)) > 0.0 && d(x.mass(OPEN, 0)) > 0.0);
        dueNumber("low odds", x.odds(0), down(y / up(up(y + n) + o)));
        BoxIntegrals all = drawn(0.0, 1.0);
        all.begin();
        double low = down(down(down(1.0)));
        dueNumber("low odds of yes alone", all.odds(0), down(low / up(up(low))));
    }

    @Sentence(in = PLACE, says = "high UP(Yh + Oh) / DOWN(UP(Yh + Oh) + Nl), UP;")
    static void theHighOdds() {
        BoxIntegrals x = allKinds();
        double some = up(d(x.mass(YES, 1)) + d(x.mass(OPEN, 1)));
        dueNumber("high odds", x.odds(1), up(some / down(some + d(x.mass(NO, 0)))));
        BoxIntegrals no = drawn(0.0, 1.0);
        no.role(1, number(no, 0.0));
        no.begin();
        dueNumber("high odds of no alone", no.odds(1), up(MIN / down(MIN + down(down(down(1.0))))));
    }

    @Sentence(in = PLACE, says = "a low end that is no number, or below 0.0, is 0.0,")
    static void lowOddsAreNotBelow0() {
        BoxIntegrals x = drawn(0.0, 1.0);
        int zero = number(x, 0.0);
        x.role(1, zero);
        x.begin();
        dueNumber("of no alone", x.odds(0), 0.0);
        x.role(1, unsure(x));
        x.begin();
        dueNumber("of open alone", x.odds(0), 0.0);
        x.role(0, zero);
        x.begin();
        dueNumber("of out alone", x.odds(0), 0.0);
        x.role(0, NONE);
        x.role(1, NONE);
        x.role(2, number(x, INF));
        x.begin();
        dueNumber("of yes without end", x.odds(0), 0.0);
        x.role(2, zero);
        x.begin();
        dueNumber("of yes that weighs nothing", x.odds(0), 0.0);
    }

    @Sentence(in = PLACE, says = "a high end that is none, or above 1.0, is 1.0.")
    static void highOddsAreNotAbove1() {
        BoxIntegrals x = drawn(0.0, 1.0);
        int zero = number(x, 0.0);
        x.begin();
        dueNumber("of yes alone", x.odds(1), 1.0);
        x.role(1, unsure(x));
        x.begin();
        dueNumber("of open alone", x.odds(1), 1.0);
        x.role(0, zero);
        x.begin();
        dueNumber("of out alone", x.odds(1), 1.0);
        x.role(0, NONE);
        x.role(2, number(x, INF));
        x.begin();
        dueNumber("of open without end", x.odds(1), 1.0);
        x.role(1, zero);
        x.role(2, zero);
        x.begin();
        dueNumber("of no that weighs nothing", x.odds(1), 1.0);
    }
}
