import java.util.Arrays;

/** The sentences of the promises, 1 to 19. */
public final class PromisesTest extends SentenceTests {
    private static final Class<ArrayIndexOutOfBoundsException> NO_SUCH_INDEX = ArrayIndexOutOfBoundsException.class;
    private static final Class<ArithmeticException> NO_DIVISOR = ArithmeticException.class;

    public static void main(String[] args) throws Exception {
        runAll(PromisesTest.class);
    }

    /** A RUN of one BOX, where there were three. */
    private static BoxIntegrals begunAnew() {
        BoxIntegrals x = busy();
        x.begin();
        return x;
    }

    /** No RUN, where there was one of three BOXES. */
    private static BoxIntegrals ended() {
        BoxIntegrals x = busy();
        x.role(4, NONE);
        return x;
    }

    @Sentence(in = "Promise 1", says = "No DRAWS, no NODES, no RUN.")
    static void aNewObjectHasNothing() {
        BoxIntegrals x = new BoxIntegrals();
        for (int what = 0; what <= 4; what++) {
            due("count " + what, x.count(what), 0);
        }
        due("begin", x.begin(), STATE);
        due("run", x.run(0), STATE);
        due("boxes", x.boxes(), 0);
        due("kind", x.kind(0), UNKNOWN);
        dueThrow("side", x, y -> y.side(0, 0, 0), NO_SUCH_INDEX);
        due("weight", x.weight(0, 1), 0);
        due("enclosed", x.enclosed(0, 0, 1), 0);
        due("value", x.value(0, b(1.0), b(1.0), b(1.0)), 0);
        due("within", x.within(0, 0, 0L, 0L, 0L), UNKNOWN);
        due("where", x.where(0L, 0L, 0L), NONE);
        due("mass", x.mass(3, 1), 0);
        due("odds", x.odds(1), 0);
        due("share", x.share(3), STATE);
        due("node of a draw", x.node(0, 0, 0, 0L), UNKNOWN);
        due("role of a draw", x.role(2, NONE), OUTSIDE);
        due("clear", x.clear(), 0);
        BoxIntegrals other = drawn(0.0, 1.0);
        due("another's draws", other.count(0), 1);
        due("its own draws still", x.count(0), 0);
    }

    @Sentence(in = "Promise 2", says = "A DRAW: its number;")
    static void drawTellsItsNumber() {
        BoxIntegrals x = new BoxIntegrals();
        for (int i = 0; i < 3; i++) {
            due("draw", x.draw(b(i), b(i + 1.0)), i);
            due("draws", x.count(0), i + 1);
        }
        x.begin();
        dueSide("the last", x, 0, 2, 2.0, 3.0);
    }

    @Sentence(in = "Promise 2", says = "a RUN ends.")
    static void drawEndsARun() {
        BoxIntegrals x = openRun(0.0, 1.0);
        x.run(3);
        x.draw(b(0.0), b(1.0));
        due("boxes", x.boxes(), 0);
        due("steps", x.count(3), 0);
        due("run", x.run(1), STATE);
        due("kind", x.kind(0), UNKNOWN);
        due("where", x.where(b(0.5), b(0.5), 0L), NONE);
        due("nodes are still there", x.count(1), 2);
        due("a new run has both", x.begin(), 2);
    }

    @Sentence(in = "Promise 2", says = "OUTSIDE; FULL.")
    static void drawIsOutsideOrFull() {
        dueRefusal("lo is hi", BoxIntegrals::new, x -> x.draw(b(1.0), b(1.0)), OUTSIDE);
        dueRefusal("lo is above hi", PromisesTest::busy, x -> x.draw(b(2.0), b(1.0)), OUTSIDE);
        dueRefusal("hi is without end", PromisesTest::idle, x -> x.draw(b(2.0), b(INF)), OUTSIDE);
        dueRefusal("lo is no number", PromisesTest::idle, x -> x.draw(b(NAN), b(1.0)), OUTSIDE);
        due("a third", idle().draw(b(1.0), b(2.0)), 2);
        dueRefusal("a fourth", PromisesTest::busy, x -> x.draw(b(1.0), b(2.0)), FULL);
        dueRefusal("a fourth that is outside", PromisesTest::busy, x -> x.draw(b(2.0), b(2.0)), OUTSIDE);
    }

    @Sentence(in = "Promise 3", says = "A NODE: its number.")
    static void nodeTellsItsNumber() {
        BoxIntegrals x = openRun(0.0, 1.0, 0.0, 1.0);
        x.run(4);
        int before = x.count(1);
        for (int kind = 0; kind <= 16; kind++) {
            due("node of kind " + kind, x.node(kind, 0, 1, 0L), before + kind);
        }
        due("nodes", x.count(1), before + 17);
        due("the run goes on", x.boxes(), 5);
        due("steps", x.run(1), 1);
    }

    @Sentence(in = "Promise 3", says = "OUTSIDE: the KIND (ahead of all);")
    static void nodeIsOutsideByItsKind() {
        for (int kind : new int[] {-1, 17, -5, 100, Integer.MIN_VALUE, Integer.MAX_VALUE}) {
            dueRefusal("kind " + kind, PromisesTest::busy, x -> x.node(kind, 0, 0, 0L), OUTSIDE);
            dueRefusal("kind " + kind + " of no nodes", BoxIntegrals::new, x -> x.node(kind, 0, 0, 0L), OUTSIDE);
            dueRefusal("kind " + kind + " when full", PromisesTest::full, x -> x.node(kind, -1, 32, 0L), OUTSIDE);
        }
    }

    @Sentence(in = "Promise 3", says = "UNKNOWN: a, b, as the KIND has them;")
    static void nodeIsUnknownByWhatItsKindHas() {
        for (int odd : NOWHERE) {
            dueRefusal("kind 0 of draw " + odd, PromisesTest::busy, x -> x.node(0, odd, 0, 0L), UNKNOWN);
            due("kind 1 of " + odd, busy().node(1, odd, odd, 0L), 4);
            for (int kind = 2; kind <= 16; kind++) {
                int one = kind;
                dueRefusal("kind " + kind + ", a " + odd, PromisesTest::busy, x -> x.node(one, odd, 0, 0L), UNKNOWN);
                if (kind <= 7) {
                    dueRefusal("kind " + kind + ", b " + odd, PromisesTest::busy, x -> x.node(one, 0, odd, 0L), UNKNOWN);
                } else {
                    due("kind " + kind + ", b " + odd, busy().node(kind, 0, odd, 0L), 4);
                }
            }
        }
        due("draw 3 of three", busy().node(0, 3, 0, 0L), UNKNOWN);
        due("draw 2 of two", idle().node(0, 2, 0, 0L), UNKNOWN);
        due("node 4 of four", busy().node(2, 3, 4, 0L), UNKNOWN);
    }

    @Sentence(in = "Promise 3", says = "FULL.")
    static void nodeIsFullAt32() {
        BoxIntegrals x = drawn(0.0, 1.0);
        for (int i = 1; i < 32; i++) {
            due("node", x.node(12, i - 1, 0, 0L), i);
        }
        for (int kind = 0; kind <= 16; kind++) {
            due("one too many, of kind " + kind, x.node(kind, 0, 0, 0L), FULL);
        }
        due("nodes", x.count(1), 32);
        dueNumber("the last", x.value(31, b(0.5), 0L, 0L), -0.5);
        x.begin();
        dueEnds("the last", x, 0, 31, -1.0, -0.0);
        due("as a role", x.role(1, 31), NONE);
        x.begin();
        due("its kind", x.kind(0), NO);
    }

    @Sentence(in = "Promise 4", says = "A role's NODE becomes another one (NONE: none):")
    static void aRoleBecomesAnotherNodeOrNone() {
        BoxIntegrals x = drawn(1.0, 2.0);
        int minus = x.node(12, 0, 0, 0L);
        x.role(1, minus);
        x.begin();
        due("surely not", x.kind(0), NO);
        x.role(1, 0);
        x.begin();
        due("surely", x.kind(0), YES);
        x.role(1, minus);
        x.role(1, NONE);
        x.begin();
        due("none", x.kind(0), YES);
        due("of none", x.role(1, minus), NONE);
    }

    @Sentence(in = "Promise 4", says = "0 THE CONDITION, 1 THE QUESTION, 2 + d the DENSITY of DRAW d:")
    static void rolesByTheirNumbers() {
        BoxIntegrals x = drawn(1.0, 2.0, 0.0, 1.0, 0.0, 1.0);
        int minus = x.node(12, 0, 0, 0L);
        x.role(0, minus);
        x.begin();
        due("the condition", x.kind(0), OUT);
        x.role(0, NONE);
        x.role(1, minus);
        x.begin();
        due("the question", x.kind(0), NO);
        x.role(1, NONE);
        x.begin();
        due("neither", x.kind(0), YES);
        // a density of -2.0 to -1.0 leaves MIN, which the widths behind it put UP: two, one or none of them
        double[] due = {3 * MIN, 2 * MIN, MIN};
        for (int draw = 0; draw <= 2; draw++) {
            x.role(2 + draw, minus);
            x.begin();
            dueWeight("the density of draw " + draw, x, 0, 0.0, due[draw]);
            x.role(2 + draw, NONE);
        }
    }

    @Sentence(in = "Promise 4", says = "what it was;")
    static void roleTellsWhatItWas() {
        BoxIntegrals x = drawn(0.0, 1.0, 0.0, 1.0, 0.0, 1.0);
        for (int role = 0; role <= 4; role++) {
            due("first", x.role(role, 2), NONE);
            due("second", x.role(role, 0), 2);
            due("the same again", x.role(role, 0), 0);
            due("to none", x.role(role, NONE), 0);
            due("from none", x.role(role, 1), NONE);
        }
        for (int role = 0; role <= 4; role++) {
            due("at last", x.role(role, NONE), 1);
        }
    }

    @Sentence(in = "Promise 4", says = "a RUN ends.")
    static void roleEndsARun() {
        for (int role = 0; role <= 2; role++) {
            for (int node : new int[] {0, NONE}) {
                BoxIntegrals x = openRun(0.0, 1.0);
                x.run(3);
                x.role(role, node);
                due("boxes after role " + role, x.boxes(), 0);
                due("steps", x.count(3), 0);
                due("run", x.run(0), STATE);
                due("odds", x.odds(1), 0);
            }
        }
        BoxIntegrals y = openRun(0.0, 1.0);
        due("a role that stays", y.role(1, 1), 1);
        due("boxes", y.boxes(), 0);
    }

    @Sentence(in = "Promise 4", says = "OUTSIDE: the role (also of a DRAW that there is not; ahead of all);")
    static void roleIsOutside() {
        double[] spans = {0.0, 1.0, 2.0, 4.0, 8.0, 16.0};
        for (int draws = 0; draws <= 3; draws++) {
            double[] some = Arrays.copyOf(spans, 2 * draws);
            Scene scene = () -> {
                BoxIntegrals x = drawn(some);
                number(x, 1.0);
                x.role(1, 0);
                x.begin();
                return x;
            };
            for (int role = 2 + draws; role <= 6; role++) {
                int one = role;
                dueRefusal("role " + role + " of " + draws + " draws", scene, x -> x.role(one, 0), OUTSIDE);
                dueRefusal("role " + role + " to none", scene, x -> x.role(one, NONE), OUTSIDE);
                dueRefusal("role " + role + " to node 99", scene, x -> x.role(one, 99), OUTSIDE);
            }
            for (int role : NOWHERE) {
                dueRefusal("role " + role, scene, x -> x.role(role, 99), OUTSIDE);
            }
            due("the last role there is", scene.make().role(1 + draws, 0), draws == 0 ? 0 : NONE);
        }
    }

    @Sentence(in = "Promise 4", says = "UNKNOWN.")
    static void roleIsUnknown() {
        for (int role = 0; role <= 4; role++) {
            int one = role;
            for (int node : new int[] {-1, -2, -3, -4, -6, 4, 31, 32, Integer.MIN_VALUE, Integer.MAX_VALUE}) {
                dueRefusal("role " + role + " to node " + node, PromisesTest::busy, x -> x.role(one, node), UNKNOWN);
            }
        }
        due("of no nodes", new BoxIntegrals().role(0, 0), UNKNOWN);
    }

    @Sentence(in = "Promise 5", says = "A RUN begins anew:")
    static void beginBeginsARunAnew() {
        BoxIntegrals x = openRun(0.0, 1.0, 0.0, 4.0);
        x.run(7);
        due("boxes", x.boxes(), 8);
        x.begin();
        due("boxes anew", x.boxes(), 1);
        due("steps anew", x.count(3), 0);
        dueSide("anew", x, 0, 0, 0.0, 1.0);
        dueSide("anew", x, 0, 1, 0.0, 4.0);
        due("kind anew", x.kind(0), OPEN);
        due("roles stay", x.role(1, NONE), 2);
        BoxIntegrals y = full();
        y.begin();
        due("after a full run", y.run(99), 99);
        BoxIntegrals z = drawn(0.0, 1.0);
        z.role(1, unsure(z));
        z.role(2, number(z, 1000.0));
        z.begin();
        z.run(9);
        z.role(2, NONE);
        z.begin();
        z.run(3);
        dueSide("boxes of an earlier run that were heavier", z, 0, 0, 0.0, 0.25);
        dueSide("boxes of an earlier run that were heavier", z, 3, 0, 0.75, 1.0);
    }

    @Sentence(in = "Promise 5", says = "how many DRAWS it has.")
    static void beginTellsHowManyDraws() {
        BoxIntegrals x = new BoxIntegrals();
        for (int draws = 1; draws <= 3; draws++) {
            x.draw(b(0.0), b(1.0));
            due("begin", x.begin(), draws);
            due("begin again", x.begin(), draws);
        }
    }

    @Sentence(in = "Promise 5", says = "STATE: there is no DRAW.")
    static void beginIsNotNowWithoutADraw() {
        dueRefusal("of a new object", BoxIntegrals::new, x -> x.begin(), STATE);
        BoxIntegrals x = new BoxIntegrals();
        number(x, 1.0);
        x.role(0, 0);
        due("with a node and a role", x.begin(), STATE);
        due("boxes", x.boxes(), 0);
        due("the role stays", x.role(0, 0), 0);
        x.draw(b(0.0), b(1.0));
        due("with a draw", x.begin(), 1);
        x.clear();
        due("after clear", x.begin(), STATE);
    }

    @Sentence(in = "Promise 6", says = "Up to n STEPS (0 .. 99),")
    static void runMakesUpToNSteps() {
        BoxIntegrals x = openRun(0.0, 1.0);
        due("none", x.run(0), 0);
        due("boxes", x.boxes(), 1);
        due("one", x.run(1), 1);
        due("boxes", x.boxes(), 2);
        due("seven", x.run(7), 7);
        due("boxes", x.boxes(), 9);
        due("steps", x.count(3), 8);
        BoxIntegrals y = openRun(0.0, 1.0);
        due("99", y.run(99), 99);
        BoxIntegrals z = openRun(0.0, 1.0);
        due("98", z.run(98), 98);
    }

    @Sentence(in = "Promise 6", says = "as long as there is a BOX to be split,")
    static void runEndsWhereNothingIsToBeSplit() {
        BoxIntegrals x = drawn(0.0, 1.0);
        x.begin();
        due("nothing is open", x.run(99), 0);
        due("boxes", x.boxes(), 1);
        due("steps", x.count(3), 0);
        BoxIntegrals y = openRun(1.0, 1.0 + 4 * Math.ulp(1.0));
        due("until all are tight", y.run(99), 3);
        due("boxes", y.boxes(), 4);
        due("no more", y.run(99), 0);
        due("tight", y.count(4), 4);
        BoxIntegrals z = drawn(-4.0, 4.0);
        z.role(1, z.node(3, z.node(11, 0, 0, 0L), number(z, 0.5), 0L));
        z.begin();
        int steps = z.run(99);
        dueTrue("until all are sure or tight, after " + steps + " steps", steps > 0 && steps < 99);
        due("boxes", z.boxes(), steps + 1);
        due("no more", z.run(99), 0);
        due("one is tight", z.count(4), 1);
    }

    @Sentence(in = "Promise 6", says = "and no more than 100 BOXES come:")
    static void runEndsAt100Boxes() {
        BoxIntegrals x = openRun(0.0, 1.0);
        due("first", x.run(60), 60);
        due("as many as there is room for", x.run(99), 39);
        due("boxes", x.boxes(), 100);
        due("steps", x.count(3), 99);
        BoxIntegrals y = openRun(0.0, 1.0);
        y.run(98);
        due("the last", y.run(2), 1);
        due("boxes", y.boxes(), 100);
    }

    @Sentence(in = "Promise 6", says = "how many.")
    static void runTellsHowManySteps() {
        BoxIntegrals x = openRun(0.0, 1.0);
        int boxes = 1;
        for (int n : new int[] {0, 1, 2, 0, 5, 40, 50}) {
            int steps = x.run(n);
            due("run(" + n + ")", steps, n);
            boxes += steps;
            due("boxes", x.boxes(), boxes);
        }
        due("the rest", x.run(99), 1);
    }

    @Sentence(in = "Promise 6", says = "OUTSIDE;")
    static void runIsOutside() {
        for (int n : new int[] {-1, 100, 101, Integer.MIN_VALUE, Integer.MAX_VALUE}) {
            dueRefusal("run(" + n + ")", PromisesTest::busy, x -> x.run(n), OUTSIDE);
            dueRefusal("run(" + n + ") without a run", PromisesTest::idle, x -> x.run(n), OUTSIDE);
            dueRefusal("run(" + n + ") when full", PromisesTest::full, x -> x.run(n), OUTSIDE);
        }
    }

    @Sentence(in = "Promise 6", says = "STATE: no RUN;")
    static void runIsNotNowWithoutARun() {
        for (int n : new int[] {0, 1, 99}) {
            dueRefusal("run(" + n + ") of a new object", BoxIntegrals::new, x -> x.run(n), STATE);
            dueRefusal("run(" + n + ") before begin", PromisesTest::idle, x -> x.run(n), STATE);
        }
        BoxIntegrals x = full();
        x.role(0, NONE);
        due("after a full run has ended", x.run(0), STATE);
    }

    @Sentence(in = "Promise 6", says = "FULL: 100 BOXES (also when n is 0).")
    static void runIsFullAt100Boxes() {
        for (int n : new int[] {0, 1, 99}) {
            dueRefusal("run(" + n + ")", PromisesTest::full, x -> x.run(n), FULL);
        }
        BoxIntegrals x = openRun(0.0, 1.0);
        x.run(98);
        due("run(0) of 99 boxes", x.run(0), 0);
        x.run(1);
        due("run(0) of 100 boxes", x.run(0), FULL);
    }

    @Sentence(in = "Promise 7", says = "BOXES;")
    static void boxesAreCounted() {
        BoxIntegrals x = openRun(0.0, 1.0);
        due("at first", x.boxes(), 1);
        x.run(5);
        due("after five steps", x.boxes(), 6);
        x.run(99);
        due("at most", x.boxes(), 100);
    }

    @Sentence(in = "Promise 7", says = "0: no RUN.")
    static void thereAreNoBoxesWithoutARun() {
        due("of a new object", new BoxIntegrals().boxes(), 0);
        due("before begin", idle().boxes(), 0);
        BoxIntegrals x = busy();
        x.role(0, NONE);
        due("after a role", x.boxes(), 0);
        BoxIntegrals y = openRun(0.0, 1.0);
        y.draw(b(0.0), b(1.0));
        due("after a draw", y.boxes(), 0);
        BoxIntegrals z = busy();
        z.clear();
        due("after clear", z.boxes(), 0);
    }

    @Sentence(in = "Promise 8", says = "KIND of a BOX.")
    static void kindIsThatOfItsBox() {
        BoxIntegrals x = drawn(-4.0, 4.0);
        x.role(0, x.node(3, 0, number(x, -1.0), 0L));
        x.role(1, x.node(3, 0, number(x, 1.0), 0L));
        x.begin();
        due("at first", x.kind(0), OPEN);
        x.run(20);
        boolean[] seen = new boolean[4];
        for (int box = 0; box < x.boxes(); box++) {
            double lo = d(x.side(box, 0, 0));
            double hi = d(x.side(box, 0, 1));
            int due = hi < -1.0 ? OUT : lo > 1.0 ? YES : lo > -1.0 && hi < 1.0 ? NO : OPEN;
            due("from " + lo + " to " + hi, x.kind(box), due);
            seen[due] = true;
        }
        dueTrue("out, yes, no and open", seen[0] && seen[1] && seen[2] && seen[3]);
    }

    @Sentence(in = "Promise 8", says = "UNKNOWN.")
    static void kindIsUnknown() {
        for (int box : NOWHERE) {
            dueRefusal("kind(" + box + ")", PromisesTest::busy, x -> x.kind(box), UNKNOWN);
        }
        due("kind(3) of three", busy().kind(3), UNKNOWN);
        due("kind(0) without a run", idle().kind(0), UNKNOWN);
        due("kind(100) of 100", full().kind(100), UNKNOWN);
        due("kind(99) of 100", full().kind(99) == UNKNOWN ? 1 : 0, 0);
        due("a box of an earlier run", begunAnew().kind(1), UNKNOWN);
        due("a box of a run that has ended", ended().kind(0), UNKNOWN);
    }

    @Sentence(in = "Promise 9", says = "BITS of an end (0 lo, 1 hi) of the side of a DRAW.")
    static void sideTellsItsEnds() {
        BoxIntegrals x = openRun(-0.0, 1.0, 2.0, 6.0, -1.5, 1.0);
        due("lo of draw 0", x.side(0, 0, 0), b(-0.0));
        due("hi of draw 0", x.side(0, 0, 1), b(1.0));
        due("lo of draw 1", x.side(0, 1, 0), b(2.0));
        due("hi of draw 1", x.side(0, 1, 1), b(6.0));
        due("lo of draw 2", x.side(0, 2, 0), b(-1.5));
        due("hi of draw 2", x.side(0, 2, 1), b(1.0));
        x.run(1);
        due("hi of draw 1 of box 0", x.side(0, 1, 1), b(4.0));
        due("lo of draw 1 of box 1", x.side(1, 1, 0), b(4.0));
        due("lo of draw 2 of box 1", x.side(1, 2, 0), b(-1.5));
        BoxIntegrals y = full();
        dueTrue("of the last box", d(y.side(99, 2, 0)) < d(y.side(99, 2, 1)));
    }

    @Sentence(in = "Promise 9", says = "ArrayIndexOutOfBoundsException: there is no such BOX, DRAW, end.")
    static void sideThrowsForWhatThereIsNot() {
        for (int odd : NOWHERE) {
            dueThrow("box " + odd, busy(), x -> x.side(odd, 0, 0), NO_SUCH_INDEX);
            dueThrow("draw " + odd, busy(), x -> x.side(0, odd, 0), NO_SUCH_INDEX);
            dueThrow("end " + odd, busy(), x -> x.side(0, 0, odd), NO_SUCH_INDEX);
            dueThrow("all " + odd, busy(), x -> x.side(odd, odd, odd), NO_SUCH_INDEX);
        }
        dueThrow("box 3 of three", busy(), x -> x.side(3, 0, 0), NO_SUCH_INDEX);
        dueThrow("draw 3 of three", busy(), x -> x.side(0, 3, 0), NO_SUCH_INDEX);
        dueThrow("end 2", busy(), x -> x.side(0, 0, 2), NO_SUCH_INDEX);
        dueThrow("box 100 of 100", full(), x -> x.side(100, 0, 0), NO_SUCH_INDEX);
        dueThrow("draw 1 of one", openRun(0.0, 1.0), x -> x.side(0, 1, 0), NO_SUCH_INDEX);
        dueThrow("draw 2 of two", openRun(0.0, 1.0, 0.0, 1.0), x -> x.side(0, 2, 1), NO_SUCH_INDEX);
        dueThrow("no run", idle(), x -> x.side(0, 0, 0), NO_SUCH_INDEX);
        dueThrow("a new object", new BoxIntegrals(), x -> x.side(0, 0, 0), NO_SUCH_INDEX);
        dueThrow("a box of an earlier run", begunAnew(), x -> x.side(1, 0, 0), NO_SUCH_INDEX);
        dueThrow("a box of a run that has ended", ended(), x -> x.side(0, 0, 0), NO_SUCH_INDEX);
    }

    @Sentence(in = "Promise 10", says = "BITS of an end of the WEIGHT of a BOX.")
    static void weightTellsItsEnds() {
        BoxIntegrals x = openRun(0.0, 2.0, 1.0, 4.0);
        due("low", x.weight(0, 0), b(down(down(down(2.0)) * down(3.0))));
        due("high", x.weight(0, 1), b(up(up(up(2.0)) * up(3.0))));
        x.run(2);
        due("low of box 0", x.weight(0, 0), b(down(down(down(1.0)) * down(1.5))));
        due("high of box 0", x.weight(0, 1), b(up(up(up(1.0)) * up(1.5))));
        due("low of box 1", x.weight(1, 0), b(down(down(down(2.0)) * down(1.5))));
        due("high of box 1", x.weight(1, 1), b(up(up(up(2.0)) * up(1.5))));
    }

    @Sentence(in = "Promise 10", says = "0: UNKNOWN, OUTSIDE.")
    static void weightIs0ForWhatThereIsNot() {
        for (int odd : NOWHERE) {
            dueRefusal("box " + odd, PromisesTest::busy, x -> x.weight(odd, 1), 0);
            dueRefusal("end " + odd, PromisesTest::busy, x -> x.weight(0, odd), 0);
        }
        due("box 3 of three", busy().weight(3, 1), 0);
        due("end 2", busy().weight(0, 2), 0);
        due("no run", idle().weight(0, 1), 0);
        due("a box of an earlier run", begunAnew().weight(1, 1), 0);
        due("a box of a run that has ended", ended().weight(0, 1), 0);
    }

    @Sentence(in = "Promise 11", says = "BITS of an end of THE ENCLOSURE of a NODE over a BOX.")
    static void enclosedTellsItsEnds() {
        BoxIntegrals x = openRun(1.0, 3.0);
        x.run(1);
        int late = x.node(4, 0, 0, 0L);
        due("low over box 0", x.enclosed(0, late, 0), b(down(1.0)));
        due("high over box 0", x.enclosed(0, late, 1), b(up(4.0)));
        due("low over box 1", x.enclosed(1, late, 0), b(down(4.0)));
        due("high over box 1", x.enclosed(1, late, 1), b(up(9.0)));
        due("low over box 0 again", x.enclosed(0, late, 0), b(down(1.0)));
    }

    @Sentence(in = "Promise 11", says = "0: UNKNOWN, OUTSIDE.")
    static void enclosedIs0ForWhatThereIsNot() {
        for (int odd : NOWHERE) {
            dueRefusal("box " + odd, PromisesTest::busy, x -> x.enclosed(odd, 2, 1), 0);
            dueRefusal("node " + odd, PromisesTest::busy, x -> x.enclosed(0, odd, 1), 0);
            dueRefusal("end " + odd, PromisesTest::busy, x -> x.enclosed(0, 2, odd), 0);
        }
        due("box 3 of three", busy().enclosed(3, 2, 1), 0);
        due("node 4 of four", busy().enclosed(0, 4, 1), 0);
        due("node 32 of 32", full().enclosed(0, 32, 1), 0);
        due("NONE", busy().enclosed(0, NONE, 1), 0);
        due("end 2", busy().enclosed(0, 2, 2), 0);
        due("no run", idle().enclosed(0, 1, 1), 0);
        due("a box of an earlier run", begunAnew().enclosed(1, 2, 1), 0);
        due("a box of a run that has ended", ended().enclosed(0, 2, 1), 0);
    }

    @Sentence(in = "Promise 12", says = "BITS of the VALUE of a NODE at a POINT")
    static void valueTellsItsBits() {
        BoxIntegrals x = idle();
        int product = x.node(4, 0, 1, 0L);
        due("without a run", x.value(product, b(0.5), b(3.0), 0L), b(1.5));
        due("outside the spans", x.value(product, b(-7.0), b(1e300), 0L), b(-7e300));
        due("one that is no number", x.value(product, b(0.0), b(INF), 0L), NAN_BITS);
        x.begin();
        due("with a run", x.value(product, b(0.5), b(3.0), 0L), b(1.5));
        due("the run goes on", x.boxes(), 1);
    }

    @Sentence(in = "Promise 12", says = "(BITS x, y, z; of DRAWS that there are not it is not looked at).")
    static void valueDoesNotLookAtDrawsThatThereAreNot() {
        for (long odd : NANS) {
            BoxIntegrals none = new BoxIntegrals();
            due("no draws", none.value(number(none, 3.0), odd, odd, odd), b(3.0));
            BoxIntegrals one = drawn(0.0, 1.0);
            due("one draw", one.value(0, b(0.5), odd, odd), b(0.5));
            BoxIntegrals two = drawn(0.0, 1.0, 0.0, 1.0);
            due("two draws", two.value(two.node(2, 0, 1, 0L), b(0.5), b(0.25), odd), b(0.75));
        }
        BoxIntegrals three = drawn(0.0, 1.0, 0.0, 1.0, 0.0, 1.0);
        due("x", three.value(0, b(1.0), b(2.0), b(3.0)), b(1.0));
        due("y", three.value(1, b(1.0), b(2.0), b(3.0)), b(2.0));
        due("z", three.value(2, b(1.0), b(2.0), b(3.0)), b(3.0));
    }

    @Sentence(in = "Promise 12", says = "0: UNKNOWN.")
    static void valueIs0ForANodeThatThereIsNot() {
        for (int odd : NOWHERE) {
            dueRefusal("node " + odd, PromisesTest::busy, x -> x.value(odd, b(1.0), b(1.0), b(1.0)), 0);
        }
        due("node 4 of four", busy().value(4, b(1.0), b(1.0), b(1.0)), 0);
        due("node 32 of 32", full().value(32, b(1.0), b(1.0), b(1.0)), 0);
        due("NONE", busy().value(NONE, b(1.0), b(1.0), b(1.0)), 0);
    }

    @Sentence(in = "Promise 13", says = "2: the POINT is in the BOX (each number from lo to hi), and the NODE's VALUE is from the low to the "
            + "high end of its ENCLOSURE,")
    static void withinIs2ForAPointInTheBox() {
        BoxIntegrals x = openRun(0.0, 1.0, -4.0, -2.0);
        int difference = x.node(3, 0, 1, 0L);
        due("inside", x.within(0, difference, b(0.5), b(-3.0), 0L), 2);
        due("at lo of both", x.within(0, difference, b(0.0), b(-4.0), 0L), 2);
        due("at hi of both", x.within(0, difference, b(1.0), b(-2.0), 0L), 2);
        due("-0.0 is from 0.0 on", x.within(0, 0, b(-0.0), b(-3.0), 0L), 2);
        due("the value at the low end", x.within(0, 0, b(0.0), b(-3.0), 0L), 2);
        due("the value at the high end", x.within(0, 0, b(1.0), b(-3.0), 0L), 2);
        due("draws that there are not", x.within(0, 0, b(0.5), b(-3.0), -1L), 2);
        x.run(1);
        due("an edge is in both", x.within(0, 0, b(0.5), b(-3.0), 0L), 2);
        due("an edge is in both", x.within(1, 0, b(0.5), b(-3.0), 0L), 2);
        due("an enclosure over the lower half", x.within(0, 1, b(0.5), b(-3.5), 0L), 2);
        due("an enclosure over the upper half", x.within(1, 1, b(0.5), b(-2.5), 0L), 2);
        BoxIntegrals y = openRun(-1.0, -0.0);
        due("0.0 is up to -0.0", y.within(0, 0, b(0.0), 0L, 0L), 2);
        int magnitude = y.node(8, 0, 0, 0L);
        due("a magnitude of 0.0", y.within(0, magnitude, b(-0.0), 0L, 0L), 2);
    }

    @Sentence(in = "Promise 13", says = "or no number;")
    static void withinIs2ForAValueThatIsNoNumber() {
        BoxIntegrals x = openRun(-1.0, 1.0);
        int root = x.node(9, 0, 0, 0L);
        int lesser = x.node(6, 0, number(x, NAN), 0L);
        int narrow = x.node(7, lesser, number(x, 5.0), 0L);
        due("a root of -0.5", x.within(0, root, b(-0.5), 0L, 0L), 2);
        due("the lesser with no number", x.within(0, lesser, b(0.5), 0L, 0L), 2);
        dueEnds("the greater with it", x, 0, narrow, 5.0, 5.0);
        due("no number, where 5.0 is the only one", x.within(0, narrow, b(0.5), 0L, 0L), 2);
    }

    @Sentence(in = "Promise 13", says = "1: it is in the BOX, but not so;")
    static void withinIs1ForAValueOutsideTheEnclosure() {
        BoxIntegrals x = openRun(-8.0, -4.0);
        int below = x.node(15, x.node(6, 0, number(x, NAN), 0L), 0, 0L);
        dueEnds("an int up to -4.0", x, 0, below, -2147483648.0, -4.0);
        due("0.0 is above the high end", x.within(0, below, b(-5.0), 0L, 0L), 1);
        BoxIntegrals y = openRun(4.0, 8.0);
        int above = y.node(16, y.node(7, 0, number(y, NAN), 0L), 0, 0L);
        dueEnds("a long from 4.0", y, 0, above, 4.0, 0x1p63);
        due("0.0 is below the low end", y.within(0, above, b(5.0), 0L, 0L), 1);
        due("at an edge", y.within(0, above, b(8.0), 0L, 0L), 1);
        due("not in the box", y.within(0, above, b(9.0), 0L, 0L), 0);
    }

    @Sentence(in = "Promise 13", says = "0: it is not in it.")
    static void withinIs0ForAPointThatIsNotInTheBox() {
        BoxIntegrals x = openRun(0.0, 1.0, -4.0, -2.0);
        due("below lo", x.within(0, 0, b(-MIN), b(-3.0), 0L), 0);
        due("above hi", x.within(0, 0, b(up(1.0)), b(-3.0), 0L), 0);
        due("the second below lo", x.within(0, 0, b(0.5), b(down(-4.0)), 0L), 0);
        due("the second above hi", x.within(0, 0, b(0.5), b(up(-2.0)), 0L), 0);
        due("without end", x.within(0, 0, b(INF), b(-3.0), 0L), 0);
        due("without end", x.within(0, 0, b(0.5), b(-INF), 0L), 0);
        for (long nan : NANS) {
            due("the first is no number", x.within(0, 0, nan, b(-3.0), 0L), 0);
            due("the second is no number", x.within(0, 0, b(0.5), nan, 0L), 0);
        }
        x.run(1);
        due("in another box", x.within(0, 0, b(0.5), b(-2.5), 0L), 0);
        due("in this box", x.within(1, 0, b(0.5), b(-2.5), 0L), 2);
        BoxIntegrals y = openRun(0.0, 1.0, 0.0, 1.0, 0.0, 1.0);
        due("the third is not", y.within(0, 0, b(0.5), b(0.5), b(1.5)), 0);
    }

    @Sentence(in = "Promise 13", says = "UNKNOWN.")
    static void withinIsUnknown() {
        for (int odd : NOWHERE) {
            dueRefusal("box " + odd, PromisesTest::busy, x -> x.within(odd, 0, b(0.5), b(0.5), b(0.75)), UNKNOWN);
            dueRefusal("node " + odd, PromisesTest::busy, x -> x.within(0, odd, b(0.5), b(0.5), b(0.75)), UNKNOWN);
        }
        due("box 3 of three", busy().within(3, 0, 0L, 0L, 0L), UNKNOWN);
        due("node 4 of four", busy().within(0, 4, 0L, 0L, 0L), UNKNOWN);
        due("node 4, and a point that is not in the box", busy().within(0, 4, b(99.0), 0L, 0L), UNKNOWN);
        due("NONE", busy().within(0, NONE, 0L, 0L, 0L), UNKNOWN);
        due("no run", idle().within(0, 0, b(0.5), b(3.0), 0L), UNKNOWN);
        due("a box of an earlier run", begunAnew().within(1, 0, b(0.5), b(0.5), b(0.75)), UNKNOWN);
        due("a box of a run that has ended", ended().within(0, 0, b(0.5), b(0.5), b(0.75)), UNKNOWN);
    }

    @Sentence(in = "Promise 14", says = "The first BOX in which a POINT is;")
    static void whereTellsTheFirstBox() {
        BoxIntegrals x = openRun(0.0, 1.0);
        x.run(3);
        due("in the first", x.where(b(0.1), -1L, -1L), 0);
        due("in the third", x.where(b(0.3), 0L, 0L), 2);
        due("in the last", x.where(b(0.9), 0L, 0L), 3);
        due("an edge of 1 and 2", x.where(b(0.5), 0L, 0L), 1);
        due("an edge of 0 and 2", x.where(b(0.25), 0L, 0L), 0);
        due("an edge of 1 and 3", x.where(b(0.75), 0L, 0L), 1);
        due("lo of all", x.where(b(0.0), 0L, 0L), 0);
        due("-0.0", x.where(b(-0.0), 0L, 0L), 0);
        due("hi of all", x.where(b(1.0), 0L, 0L), 3);
        BoxIntegrals y = openRun(0.0, 1.0, 0.0, 1.0, 5.0, 7.0);
        y.run(1);
        due("by the third number", y.where(b(0.5), b(0.5), b(6.5)), 1);
    }

    @Sentence(in = "Promise 14", says = "NONE (also without a RUN).")
    static void whereIsNone() {
        BoxIntegrals x = openRun(0.0, 1.0, 2.0, 3.0, 4.0, 5.0);
        x.run(5);
        due("the first below lo", x.where(b(-MIN), b(2.5), b(4.5)), NONE);
        due("the first above hi", x.where(b(up(1.0)), b(2.5), b(4.5)), NONE);
        due("the second above hi", x.where(b(0.5), b(3.5), b(4.5)), NONE);
        due("the third below lo", x.where(b(0.5), b(2.5), b(3.5)), NONE);
        due("the third without end", x.where(b(0.5), b(2.5), b(INF)), NONE);
        for (long nan : NANS) {
            due("no number", x.where(nan, b(2.5), b(4.5)), NONE);
            due("no number", x.where(b(0.5), b(2.5), nan), NONE);
        }
        due("without a run", idle().where(b(0.5), b(3.0), 0L), NONE);
        due("of a new object", new BoxIntegrals().where(0L, 0L, 0L), NONE);
        due("of a run that has ended", ended().where(b(0.5), b(0.5), b(0.75)), NONE);
    }

    @Sentence(in = "Promise 15", says = "BITS of an end of THE MASS of a KIND (0 .. 3).")
    static void massTellsItsEnds() {
        for (int kind = 0; kind <= 3; kind++) {
            BoxIntegrals x = drawn(0.0, 1.0);
            x.role(0, kind == OUT ? number(x, 0.0) : NONE);
            x.role(1, kind == NO ? number(x, 0.0) : kind == OPEN ? unsure(x) : NONE);
            x.begin();
            for (int other = 0; other <= 3; other++) {
                due("low mass of " + other, x.mass(other, 0), other == kind ? b(down(down(down(1.0)))) : 0);
                due("high mass of " + other, x.mass(other, 1), other == kind ? b(up(up(up(1.0)))) : 0);
            }
        }
    }

    @Sentence(in = "Promise 15", says = "0: OUTSIDE, no RUN.")
    static void massIs0ForWhatThereIsNot() {
        for (int odd : NOWHERE) {
            dueRefusal("kind " + odd, PromisesTest::busy, x -> x.mass(odd, 1), 0);
            dueRefusal("end " + odd, PromisesTest::busy, x -> x.mass(3, odd), 0);
        }
        due("kind 4", busy().mass(4, 1), 0);
        due("end 2", busy().mass(3, 2), 0);
        for (int kind = 0; kind <= 3; kind++) {
            due("no run", idle().mass(kind, 1), 0);
        }
        due("of a run that has ended", ended().mass(3, 1), 0);
    }

    @Sentence(in = "Promise 16", says = "BITS of an end of THE ODDS.")
    static void oddsTellTheirEnds() {
        BoxIntegrals x = drawn(0.0, 1.0);
        x.begin();
        double low = down(down(down(1.0)));
        due("low", x.odds(0), b(down(low / up(up(low)))));
        due("high", x.odds(1), b(1.0));
        x.role(1, unsure(x));
        x.begin();
        due("low of open", x.odds(0), b(0.0));
        due("high of open", x.odds(1), b(1.0));
    }

    @Sentence(in = "Promise 16", says = "0: OUTSIDE, no RUN.")
    static void oddsAre0ForWhatThereIsNot() {
        for (int odd : NOWHERE) {
            dueRefusal("end " + odd, PromisesTest::busy, x -> x.odds(odd), 0);
        }
        due("end 2", busy().odds(2), 0);
        due("no run", idle().odds(1), 0);
        due("of a new object", new BoxIntegrals().odds(1), 0);
        due("of a run that has ended", ended().odds(1), 0);
    }

    @Sentence(in = "Promise 17", says = "How many BOXES there are of a KIND by how many OPEN ones, cut.")
    static void shareIsACutQuotient() {
        BoxIntegrals x = drawn(0.0, 1.0);
        x.role(0, x.node(3, 0, number(x, 0.3), 0L));
        x.role(1, x.node(3, 0, number(x, 0.6), 0L));
        x.begin();
        due("one by one", x.share(OPEN), 1);
        due("none by one", x.share(YES), 0);
        boolean cut = false;
        boolean over = false;
        for (int round = 0; round < 12; round++) {
            x.run(1);
            int[] seen = new int[4];
            for (int box = 0; box < x.boxes(); box++) {
                seen[x.kind(box)]++;
            }
            for (int kind = 0; kind <= 3; kind++) {
                due("of " + seen[kind] + " by " + seen[OPEN], x.share(kind), seen[kind] / seen[OPEN]);
                cut |= seen[kind] % seen[OPEN] != 0 && seen[kind] > seen[OPEN];
                over |= seen[kind] != 0 && seen[kind] < seen[OPEN];
            }
        }
        dueTrue("some quotient is cut", cut);
        dueTrue("some quotient is cut to 0", over);
    }

    @Sentence(in = "Promise 17", says = "OUTSIDE; STATE.")
    static void shareIsOutsideOrNotNow() {
        for (int odd : NOWHERE) {
            dueRefusal("kind " + odd, PromisesTest::busy, x -> x.share(odd), OUTSIDE);
            dueRefusal("kind " + odd + " without a run", PromisesTest::idle, x -> x.share(odd), OUTSIDE);
        }
        due("kind 4", busy().share(4), OUTSIDE);
        for (int kind = 0; kind <= 3; kind++) {
            int one = kind;
            dueRefusal("no run", PromisesTest::idle, x -> x.share(one), STATE);
            dueRefusal("a new object", BoxIntegrals::new, x -> x.share(one), STATE);
        }
        BoxIntegrals x = drawn(0.0, 1.0);
        x.begin();
        due("kind 4, where there is no open one", x.share(4), OUTSIDE);
    }

    @Sentence(in = "Promise 17", says = "ArithmeticException: there is no OPEN one.")
    static void shareThrowsWithoutAnOpenBox() {
        BoxIntegrals x = drawn(0.0, 1.0);
        x.begin();
        for (int kind = 0; kind <= 3; kind++) {
            int one = kind;
            dueThrow("share(" + kind + ")", x, y -> y.share(one), NO_DIVISOR);
        }
        BoxIntegrals z = drawn(-1.0, 1.0);
        z.role(1, z.node(3, z.node(14, 0, 0, 0L), number(z, 2.0), 0L));
        z.begin();
        due("a no alone", z.kind(0), NO);
        dueThrow("share of no", z, y -> y.share(NO), NO_DIVISOR);
        BoxIntegrals tight = openRun(1.0, up(1.0));
        due("an open one that is tight is open", tight.share(OPEN), 1);
    }

    @Sentence(in = "Promise 18", says = "0 DRAWS, 1 NODES, 2 BOXES, 3 STEPS of the RUN (0 without one), 4 OPEN BOXES that are TIGHT.")
    static void countCountsEach() {
        BoxIntegrals x = openRun(0.0, 1.0, 0.0, 1.0);
        x.run(5);
        x.run(3);
        due("draws", x.count(0), 2);
        due("nodes", x.count(1), 3);
        due("boxes", x.count(2), 9);
        due("steps", x.count(3), 8);
        due("tight", x.count(4), 0);
        x.begin();
        due("steps anew", x.count(3), 0);
        due("boxes anew", x.count(2), 1);
        x.run(2);
        x.role(0, NONE);
        due("draws without a run", x.count(0), 2);
        due("nodes without a run", x.count(1), 3);
        due("boxes without a run", x.count(2), 0);
        due("steps without a run", x.count(3), 0);
        BoxIntegrals y = openRun(1.0, 1.0 + 3 * Math.ulp(1.0));
        due("not tight", y.count(4), 0);
        y.run(1);
        due("one of two is tight", y.count(4), 1);
        y.run(1);
        due("three are tight", y.count(4), 3);
        y.role(0, NONE);
        due("tight without a run", y.count(4), 0);
        y.role(1, NONE);
        y.begin();
        due("of one that is not open", y.count(4), 0);
        BoxIntegrals z = drawn(1.0, up(1.0));
        z.begin();
        due("tight, but not open", z.count(4), 0);
        BoxIntegrals w = drawn(1.0, 1.0 + 4 * Math.ulp(1.0));
        w.role(0, w.node(3, 0, number(w, up(up(1.0))), 0L));
        w.begin();
        w.run(9);
        due("out", w.kind(0), OUT);
        dueTrue("tight ones behind it", w.count(4) > 0);
    }

    @Sentence(in = "Promise 18", says = "OUTSIDE.")
    static void countIsOutside() {
        for (int odd : new int[] {-1, 5, 6, -5, Integer.MIN_VALUE, Integer.MAX_VALUE}) {
            dueRefusal("count(" + odd + ")", PromisesTest::busy, x -> x.count(odd), OUTSIDE);
            dueRefusal("count(" + odd + ") of a new object", BoxIntegrals::new, x -> x.count(odd), OUTSIDE);
        }
    }

    @Sentence(in = "Promise 19", says = "All is gone:")
    static void clearLeavesNothing() {
        BoxIntegrals x = busy();
        x.clear();
        dueText("as a new object", told(x), told(new BoxIntegrals()));
        BoxIntegrals y = full();
        y.clear();
        due("the first draw", y.draw(b(7.0), b(8.0)), 0);
        due("the first node", y.node(0, 0, 0, 0L), 0);
        for (int role = 0; role <= 2; role++) {
            due("role " + role, y.role(role, NONE), NONE);
        }
        due("role 3", y.role(3, NONE), OUTSIDE);
        due("begin", y.begin(), 1);
        due("one box", y.boxes(), 1);
        due("which is sure", y.kind(0), YES);
        dueSide("the new span", y, 0, 0, 7.0, 8.0);
        dueWeight("without a density", y, 0, down(down(1.0)), up(up(1.0)));
        y.draw(b(0.0), b(1.0));
        y.draw(b(0.0), b(1.0));
        due("three draws again", y.begin(), 3);
        for (int node = y.count(1); node < 32; node++) {
            due("node", number(y, 1.0), node);
        }
        due("32 nodes again", y.node(1, 0, 0, 0L), FULL);
    }

    @Sentence(in = "Promise 19", says = "how many NODES there were.")
    static void clearTellsHowManyNodesThereWere() {
        due("of a new object", new BoxIntegrals().clear(), 0);
        due("of four", busy().clear(), 4);
        BoxIntegrals x = full();
        due("of 32", x.clear(), 32);
        due("again", x.clear(), 0);
        number(x, 1.0);
        due("of one without draws", x.clear(), 1);
        x.draw(b(0.0), b(1.0));
        due("of a draw alone", x.clear(), 0);
        due("and its draw is gone", x.count(0), 0);
    }
}
