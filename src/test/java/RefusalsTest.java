/** The sentences of "Terms" on what is refused. */
public final class RefusalsTest extends SentenceTests {
    private static final String PLACE = "Terms";

    public static void main(String[] args) throws Exception {
        runAll(RefusalsTest.class);
    }

    @Sentence(in = PLACE, says = "Refused, and nothing changes:")
    static void refusedCallsChangeNothing() {
        for (Scene scene : new Scene[] {BoxIntegrals::new, RefusalsTest::idle, RefusalsTest::busy, RefusalsTest::full}) {
            dueRefusal("draw of one number", scene, x -> x.draw(b(1.0), b(1.0)), OUTSIDE);
            dueRefusal("draw without end", scene, x -> x.draw(b(1.0), b(INF)), OUTSIDE);
            dueRefusal("node of kind 17", scene, x -> x.node(17, 0, 0, 0L), OUTSIDE);
            dueRefusal("node of node 32", scene, x -> x.node(8, 32, 0, 0L), UNKNOWN);
            dueRefusal("node of node 0 and 32", scene, x -> x.node(2, 0, 32, 0L), UNKNOWN);
            dueRefusal("node of draw 3", scene, x -> x.node(0, 3, 0, 0L), UNKNOWN);
            dueRefusal("role 5", scene, x -> x.role(5, NONE), OUTSIDE);
            dueRefusal("role 0 of node 32", scene, x -> x.role(0, 32), UNKNOWN);
            dueRefusal("role 1 of node -1", scene, x -> x.role(1, -1), UNKNOWN);
            dueRefusal("run -1", scene, x -> x.run(-1), OUTSIDE);
            dueRefusal("run 100", scene, x -> x.run(100), OUTSIDE);
            dueRefusal("kind of box 100", scene, x -> x.kind(100), UNKNOWN);
            dueRefusal("within of node 32", scene, x -> x.within(0, 32, 0L, 0L, 0L), UNKNOWN);
            dueRefusal("share of kind 4", scene, x -> x.share(4), OUTSIDE);
            dueRefusal("count 5", scene, x -> x.count(5), OUTSIDE);
            dueRefusal("weight of box 100", scene, x -> x.weight(100, 0), 0);
            dueRefusal("enclosed of node 32", scene, x -> x.enclosed(0, 32, 0), 0);
            dueRefusal("value of node 32", scene, x -> x.value(32, b(1.0), b(2.0), b(3.0)), 0);
            dueRefusal("mass of kind 4", scene, x -> x.mass(4, 0), 0);
            dueRefusal("odds of end 2", scene, x -> x.odds(2), 0);
        }
        dueRefusal("begin of a new object", BoxIntegrals::new, x -> x.begin(), STATE);
        dueRefusal("run without a run", RefusalsTest::idle, x -> x.run(5), STATE);
        dueRefusal("share without a run", RefusalsTest::idle, x -> x.share(3), STATE);
        dueRefusal("a fourth draw", RefusalsTest::busy, x -> x.draw(b(0.0), b(1.0)), FULL);
        dueRefusal("a node too many", RefusalsTest::full, x -> x.node(1, 0, 0, 0L), FULL);
        dueRefusal("a step too many", RefusalsTest::full, x -> x.run(1), FULL);
    }

    @Sentence(in = PLACE, says = "Refused, and nothing changes:")
    static void callsThatThrowChangeNothing() {
        BoxIntegrals x = busy();
        dueThrow("side", x, y -> y.side(100, 0, 0), ArrayIndexOutOfBoundsException.class);
        dueText("after side", told(x), told(busy()));
        BoxIntegrals sure = idle();
        sure.begin();
        dueThrow("share", sure, y -> y.share(1), ArithmeticException.class);
        BoxIntegrals twin = idle();
        twin.begin();
        dueText("after share", told(sure), told(twin));
    }

    @Sentence(in = PLACE, says = "UNKNOWN (there is no such thing), OUTSIDE (a number is not as told), STATE (not now), FULL:")
    static void refusalsAreToldByTheirNumbers() {
        due("UNKNOWN", BoxIntegrals.UNKNOWN, -1);
        due("OUTSIDE", BoxIntegrals.OUTSIDE, -2);
        due("STATE", BoxIntegrals.STATE, -3);
        due("FULL", BoxIntegrals.FULL, -4);
        due("NONE", BoxIntegrals.NONE, -5);
        due("there is no such thing", busy().kind(3), -1);
        due("a number is not as told", busy().run(-7), -2);
        due("not now", idle().run(1), -3);
        due("full", full().run(1), -4);
    }

    @Sentence(in = PLACE, says = "the first of these that fits, but where a call says so.")
    static void theFirstRefusalThatFitsIsTold() {
        due("draw, outside ahead of full", busy().draw(b(1.0), b(0.0)), OUTSIDE);
        due("node, kind ahead of unknown", busy().node(17, 99, 99, 0L), OUTSIDE);
        due("node, kind ahead of full", full().node(-1, 0, 0, 0L), OUTSIDE);
        due("node, kind ahead of unknown and full", full().node(17, 99, 99, 0L), OUTSIDE);
        due("node, unknown ahead of full", full().node(2, 0, 32, 0L), UNKNOWN);
        due("node, an unknown draw ahead of full", full().node(0, 3, 0, 0L), UNKNOWN);
        due("role, outside ahead of unknown", busy().role(5, 99), OUTSIDE);
        due("role, a draw that there is not ahead of unknown", idle().role(4, 99), OUTSIDE);
        due("run, outside ahead of state", idle().run(100), OUTSIDE);
        due("run, outside ahead of full", full().run(-1), OUTSIDE);
        due("run, state of a new object", new BoxIntegrals().run(0), STATE);
        due("share, outside ahead of state", idle().share(4), OUTSIDE);
        BoxIntegrals sure = idle();
        sure.begin();
        due("share, outside ahead of its exception", sure.share(-1), OUTSIDE);
        due("share, state ahead of its exception", idle().share(3), STATE);
    }
}
