/** Promises 1 to 3: a test of its own for each boundary case that a sentence of them names. */
public final class YardLimitTest {
    private static final Check CHECK = new Check("YardLimitTest");
    private static final int NONE = RouteInterlocking.NONE;
    private static final int BAD = RouteInterlocking.BAD;

    public static void main(String[] args) {
        newObjectHasNoJoints();
        newObjectHasNoSignals();
        newObjectHasNoTrains();
        jointWhenTwelveAreThere();
        jointOutside();
        jointOfTheSameSection();
        jointAtAnEndWithTwo();
        jointOfTwoThatAreJoined();
        jointWithATrain();
        jointWithASetRoute();
        jointWithARouteBeingCancelled();
        jointElseTrue();
        jointAfterTheSignals();
        jointPutsAllPointsToZero();
        jointPutsAnyPointToZero();
        signalOutside();
        signalThatIsSoAlready();
        signalWithATrain();
        signalWithASetRoute();
        signalWithARouteBeingCancelled();
        signalElseTrue();
        signalAloneMovesNoPoint();
        CHECK.end();
    }

    private static void newObjectHasNoJoints() {
        CHECK.under("Promise 1: No joints");
        RouteInterlocking x = new RouteInterlocking();
        for (int a = 0; a < 20; a++) {
            CHECK.same("position(" + a + ")", x.position(a), NONE);
            CHECK.yes("a signal at " + a, x.signal(a, true));
        }
        CHECK.same("signals alone make no route", x.routes(), 0);
        int[] mesh = Yards.mesh();
        int made = 0;
        for (int j = 0; j < 12; j++) {
            made += x.joint(mesh[2 * j], mesh[2 * j + 1]) ? 1 : 0;
        }
        CHECK.same("room for all twelve", made, 12);
    }

    private static void newObjectHasNoSignals() {
        CHECK.under("Promise 1: no signals");
        RouteInterlocking x = new RouteInterlocking();
        for (int a = 0; a < 20; a++) {
            CHECK.no("one to take away at " + a, x.signal(a, false));
        }
        x.joint(1, 2);
        CHECK.same("a joint alone makes no route", x.routes(), 0);
    }

    private static void newObjectHasNoTrains() {
        CHECK.under("Promise 1: no trains");
        RouteInterlocking x = new RouteInterlocking();
        for (int t = 0; t < 3; t++) {
            CHECK.same("train(" + t + ")", x.train(t), NONE);
            CHECK.no("none to go away", x.turn(t, 0));
        }
        CHECK.same("no moves", x.tick(20), 0);
        for (int s = 0; s < 10; s++) {
            CHECK.same("lock(" + s + ")", x.lock(s), NONE);
            CHECK.yes("room in section " + s, x.put(0, 2 * s));
            x.turn(0, 0);
        }
        CHECK.same("routes()", x.routes(), 0);
        CHECK.same("largest()", x.largest(), 0);
        CHECK.same("blocked(0)", x.blocked(0), BAD);
        CHECK.same("hops(0, 1)", x.hops(0, 1), NONE);
    }

    private static void jointWhenTwelveAreThere() {
        CHECK.under("Promise 2: 12 joints are there: refused, answers false");
        RouteInterlocking x = new RouteInterlocking();
        int[] mesh = Yards.mesh();
        for (int j = 0; j < 11; j++) {
            x.joint(mesh[2 * j], mesh[2 * j + 1]);
        }
        CHECK.yes("eleven are there", x.joint(mesh[22], mesh[23]));
        int[] free = {0, 2, 13, 15, 16, 17, 18, 19};
        for (int a : free) {
            for (int b : free) {
                CHECK.no("twelve are there, joint(" + a + ", " + b + ")", x.joint(a, b));
            }
        }
    }

    private static void jointOutside() {
        CHECK.under("Promise 2: a or b is outside 0..19: refused, answers false");
        RouteInterlocking x = new RouteInterlocking();
        for (int n : Outside.of(20)) {
            CHECK.no("joint(" + n + ", 5)", x.joint(n, 5));
            CHECK.no("joint(5, " + n + ")", x.joint(5, n));
            CHECK.no("joint(" + n + ", " + n + ")", x.joint(n, n));
            CHECK.no("joint(" + n + ", 0)", x.joint(n, 0));
            CHECK.no("joint(19, " + n + ")", x.joint(19, n));
        }
        CHECK.yes("the outermost that are inside", x.joint(0, 19));
    }

    private static void jointOfTheSameSection() {
        CHECK.under("Promise 2: they are of the same section: refused, answers false");
        RouteInterlocking x = new RouteInterlocking();
        for (int s = 0; s < 10; s++) {
            CHECK.no("joint of section " + s, x.joint(2 * s, 2 * s + 1));
            CHECK.no("joint of section " + s + ", turned", x.joint(2 * s + 1, 2 * s));
            CHECK.no("an end with itself", x.joint(2 * s, 2 * s));
        }
        CHECK.yes("neighbours of different sections", x.joint(1, 2));
    }

    private static void jointAtAnEndWithTwo() {
        CHECK.under("Promise 2: one has two joints: refused, answers false");
        RouteInterlocking x = Yards.with(new int[] {6, 0, 3, 6});
        for (int b = 8; b < 20; b++) {
            CHECK.no("joint(6, " + b + ")", x.joint(6, b));
            CHECK.no("joint(" + b + ", 6)", x.joint(b, 6));
        }
        CHECK.yes("a second one at 0", x.joint(0, 8));
        CHECK.yes("a second one at 3", x.joint(9, 3));
        CHECK.no("both have two", x.joint(0, 3));
        CHECK.yes("the opposite end has none", x.joint(7, 8));
    }

    private static void jointOfTwoThatAreJoined() {
        CHECK.under("Promise 2: these two are joined already: refused, answers false");
        RouteInterlocking x = Yards.with(new int[] {0, 19, 4, 0, 19, 7});
        RouteInterlocking y = Yards.with(new int[] {2, 5});
        int[][] joined = {{0, 19}, {4, 0}, {19, 7}};
        for (int[] pair : joined) {
            CHECK.no("joint(" + pair[0] + ", " + pair[1] + ")", x.joint(pair[0], pair[1]));
            CHECK.no("joint(" + pair[1] + ", " + pair[0] + ")", x.joint(pair[1], pair[0]));
        }
        CHECK.no("each with one joint", y.joint(2, 5));
        CHECK.no("each with one joint, turned", y.joint(5, 2));
        CHECK.yes("the same sections by other ends", y.joint(3, 5));
        CHECK.yes("the same sections by other ends", y.joint(2, 4));
        CHECK.no("the second joint of 5", y.joint(5, 3));
    }

    private static void jointWithATrain() {
        CHECK.under("Promise 2: there are trains: refused, answers false");
        for (int t = 0; t < 3; t++) {
            for (int a = 0; a < 20; a += 19) {
                RouteInterlocking x = new RouteInterlocking();
                x.put(t, a);
                CHECK.no("with train " + t + " at " + a, x.joint(8, 10));
                x.turn(t, 0);
                CHECK.yes("when it has gone", x.joint(8, 10));
            }
        }
    }

    private static void jointWithASetRoute() {
        CHECK.under("Promise 2: there are set routes: refused, answers false");
        RouteInterlocking x = Yards.ring(16);
        for (int r = 0; r < 16; r++) {
            x.set(r);
            CHECK.no("with route " + r, x.joint(1, 4));
            x.cancel(r);
        }
        CHECK.yes("with none", x.joint(1, 4));
    }

    private static void jointWithARouteBeingCancelled() {
        CHECK.under("Promise 2: there are set routes (one being cancelled is set until its last tick)");
        RouteInterlocking x = Yards.line();
        x.put(0, 1);
        x.set(0);
        x.cancel(0);
        x.turn(0, 0);
        for (int n = 0; n < 3; n++) {
            CHECK.no("after " + n + " ticks", x.joint(8, 10));
            x.tick(1);
        }
        CHECK.yes("after 3 ticks", x.joint(8, 10));
    }

    private static void jointElseTrue() {
        CHECK.under("Promise 2: Else true");
        for (int a = 0; a < 20; a++) {
            for (int b = 0; b < 20; b++) {
                if (a / 2 != b / 2) {
                    RouteInterlocking x = new RouteInterlocking();
                    CHECK.yes("joint(" + a + ", " + b + ")", x.joint(a, b));
                    x.signal(a, true);
                    CHECK.same("its route", x.via(0, 0), 0);
                    x.set(0);
                    CHECK.same("into the section of " + b, x.lock(b / 2), 0);
                }
            }
        }
    }

    private static void jointAfterTheSignals() {
        CHECK.under("Promise 2: Joins two ends (whether signals are there before or come later)");
        RouteInterlocking x = Yards.with(new int[] {}, 1);
        for (int n = 1; n <= 6; n++) {
            CHECK.yes("joint " + (n - 1), x.joint(2 * n - 1, 2 * n));
            CHECK.same("the route of " + n, x.routes(), n <= 5 ? 1 : 0);
            CHECK.same("has this joint", x.via(0, n - 1), n <= 5 ? n - 1 : BAD);
        }
        CHECK.yes("a branch at the signal", x.joint(18, 1));
        CHECK.same("a route again", x.routes(), 1);
        CHECK.same("by the branch", x.via(0, 0), 6);
    }

    /** Points of the mesh less one joint, those of its route that takes the second joint everywhere at 1. */
    private static void jointPutsAllPointsToZero() {
        CHECK.under("Promise 2: all points have the position 0 then");
        RouteInterlocking x = Yards.with(new int[] {1, 4, 1, 6, 3, 4, 3, 6, 5, 8, 5, 10, 7, 8, 7, 10, 9, 12, 9, 14, 11, 12}, 1, 3);
        int last = x.routes() - 1;
        CHECK.yes("the last route", x.set(last));
        int[] over = {3, 6, 7, 10};
        for (int a : over) {
            CHECK.same("position(" + a + ") when it is set", x.position(a), 1);
        }
        x.cancel(last);
        for (int a : over) {
            CHECK.same("position(" + a + ") when it is cancelled", x.position(a), 1);
        }
        CHECK.no("a refused joint", x.joint(1, 14));
        CHECK.same("leaves them", x.position(10), 1);
        CHECK.yes("the twelfth joint", x.joint(11, 14));
        int[] points = {1, 3, 4, 6, 5, 7, 8, 10, 9, 11, 12, 14};
        for (int a : points) {
            CHECK.same("position(" + a + ") after a joint", x.position(a), 0);
        }
    }

    private static void jointPutsAnyPointToZero() {
        CHECK.under("Promise 2: all points have the position 0 then (each end)");
        for (int a = 0; a < 20; a++) {
            RouteInterlocking x = Yards.with(new int[] {a, (a + 2) % 20, a, (a + 4) % 20}, a);
            x.set(1);
            x.cancel(1);
            CHECK.same("position(" + a + ") before", x.position(a), 1);
            CHECK.yes("a joint elsewhere", x.joint((a + 6) % 20, (a + 8) % 20));
            CHECK.same("position(" + a + ") after", x.position(a), 0);
        }
    }

    private static void signalOutside() {
        CHECK.under("Promise 3: a outside 0..19: refused, answers false");
        RouteInterlocking x = new RouteInterlocking();
        for (int n : Outside.of(20)) {
            CHECK.no("signal(" + n + ", true)", x.signal(n, true));
            CHECK.no("signal(" + n + ", true) again", x.signal(n, true));
            CHECK.no("signal(" + n + ", false)", x.signal(n, false));
        }
        CHECK.yes("the first one inside", x.signal(0, true));
        CHECK.yes("the last one inside", x.signal(19, true));
    }

    private static void signalThatIsSoAlready() {
        CHECK.under("Promise 3: it is so already: refused, answers false");
        RouteInterlocking x = new RouteInterlocking();
        for (int a = 0; a < 20; a++) {
            CHECK.no("none at " + a + " already", x.signal(a, false));
            x.signal(a, true);
            CHECK.no("one at " + a + " already", x.signal(a, true));
            x.signal(a, false);
            CHECK.no("none at " + a + " again", x.signal(a, false));
            x.signal(a, true);
        }
    }

    private static void signalWithATrain() {
        CHECK.under("Promise 3: there are trains: refused, answers false");
        for (int t = 0; t < 3; t++) {
            for (int a = 0; a < 20; a += 19) {
                RouteInterlocking x = Yards.with(new int[] {}, 7);
                x.put(t, a);
                CHECK.no("on, with train " + t + " at " + a, x.signal(8, true));
                CHECK.no("off, with train " + t + " at " + a, x.signal(7, false));
                x.turn(t, 0);
                CHECK.yes("on, when it has gone", x.signal(8, true));
                CHECK.yes("off, when it has gone", x.signal(7, false));
            }
        }
    }

    private static void signalWithASetRoute() {
        CHECK.under("Promise 3: there are set routes: refused, answers false");
        RouteInterlocking x = Yards.ring(16);
        for (int r = 0; r < 16; r++) {
            x.set(r);
            CHECK.no("on, with route " + r, x.signal(19, true));
            CHECK.no("off, with route " + r, x.signal(9, false));
            x.cancel(r);
        }
        CHECK.yes("on, with none", x.signal(19, true));
        CHECK.yes("off, with none", x.signal(9, false));
    }

    private static void signalWithARouteBeingCancelled() {
        CHECK.under("Promise 3: there are set routes (one being cancelled is set until its last tick)");
        RouteInterlocking x = Yards.line();
        x.put(0, 1);
        x.set(0);
        x.cancel(0);
        x.turn(0, 0);
        for (int n = 0; n < 3; n++) {
            CHECK.no("after " + n + " ticks", x.signal(1, false));
            x.tick(1);
        }
        CHECK.yes("after 3 ticks", x.signal(1, false));
        CHECK.same("its route has gone", x.routes(), 0);
    }

    private static void signalElseTrue() {
        CHECK.under("Promise 3: Else true");
        for (int a = 0; a < 20; a++) {
            RouteInterlocking x = Yards.with(new int[] {a, (a + 2) % 20});
            CHECK.yes("on at " + a, x.signal(a, true));
            CHECK.same("a route from " + a, x.routes(), 1);
            CHECK.yes("off at " + a, x.signal(a, false));
            CHECK.same("no route from " + a, x.routes(), 0);
            CHECK.yes("on at " + a + " again", x.signal(a, true));
            CHECK.same("the route from " + a + " again", x.routes(), 1);
        }
    }

    private static void signalAloneMovesNoPoint() {
        CHECK.under("Promise 3: An end has a signal or none any more");
        RouteInterlocking x = Yards.fork();
        x.set(1);
        x.cancel(1);
        CHECK.yes("one elsewhere", x.signal(9, true));
        CHECK.same("position(1)", x.position(1), 1);
        CHECK.yes("one at the point", x.signal(1, false));
        CHECK.same("position(1)", x.position(1), 1);
    }
}
