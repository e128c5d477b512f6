/** Promises 1 to 3, 9, 10 and 11: a new object, joint, signal, routes, via, position. */
public final class LayoutTest {
    private static final Check CHECK = new Check("LayoutTest");

    public static void main(String[] args) {
        newObject();
        jointRefusals();
        jointTwelveAreAll();
        jointNeedsAFreeYard();
        jointResetsPoints();
        refusedJointKeepsPoints();
        signalRefusals();
        signalNeedsAFreeYard();
        signalKeepsPoints();
        routesEndAtSignalOrAtNoJoint();
        routesHaveOneToFiveJoints();
        routesEnterNoSectionTwice();
        routesAreOrdered();
        onlySixteenRoutesCount();
        viaAnswers();
        positionAnswers();
        CHECK.end();
    }

    private static void newObject() {
        RouteInterlocking x = new RouteInterlocking();
        CHECK.same("routes of a new object", x.routes(), 0);
        CHECK.same("largest of a new object", x.largest(), 0);
        for (int t = 0; t < 3; t++) {
            CHECK.same("train " + t + " of a new object", x.train(t), RouteInterlocking.NONE);
        }
        for (int s = 0; s < 10; s++) {
            CHECK.same("lock " + s + " of a new object", x.lock(s), RouteInterlocking.NONE);
        }
        for (int a = 0; a < 20; a++) {
            CHECK.same("position " + a + " of a new object", x.position(a), RouteInterlocking.NONE);
            CHECK.no("no signal to take away at " + a, x.signal(a, false));
        }
        RouteInterlocking other = Yards.line();
        CHECK.same("objects share nothing", x.routes() + 10 * other.routes(), 10);
    }

    private static void jointRefusals() {
        RouteInterlocking x = new RouteInterlocking();
        int[] outside = {-1, 20, Integer.MIN_VALUE, Integer.MAX_VALUE};
        for (int a : outside) {
            CHECK.no("joint(" + a + ", 5)", x.joint(a, 5));
            CHECK.no("joint(5, " + a + ")", x.joint(5, a));
        }
        CHECK.no("both outside", x.joint(-2, 20));
        CHECK.no("same end", x.joint(6, 6));
        CHECK.no("same section", x.joint(6, 7));
        CHECK.no("same section, turned", x.joint(7, 6));
        CHECK.yes("the first and the last end", x.joint(0, 19));
        CHECK.no("joined already", x.joint(0, 19));
        CHECK.no("joined already, turned", x.joint(19, 0));
        CHECK.yes("a second joint at 0", x.joint(4, 0));
        CHECK.no("joined already as its second joint", x.joint(0, 4));
        CHECK.no("a third joint at 0", x.joint(0, 6));
        CHECK.no("a third joint at 0, turned", x.joint(6, 0));
        CHECK.yes("the opposite end is another one", x.joint(1, 7));
        x.signal(0, true);
        x.signal(1, true);
        CHECK.same("refused joints are not there", x.routes(), 3);
        for (int r = 0; r < 3; r++) {
            CHECK.same("and take no number", x.via(r, 0), r);
        }
    }

    private static void jointTwelveAreAll() {
        RouteInterlocking x = new RouteInterlocking();
        int made = 0;
        for (int s = 0; s < 9; s++) {
            made += x.joint(2 * s + 1, 2 * s + 2) ? 1 : 0;
        }
        made += x.joint(1, 4) ? 1 : 0;
        made += x.joint(5, 8) ? 1 : 0;
        CHECK.same("eleven joints", made, 11);
        CHECK.yes("the twelfth", x.joint(9, 12));
        CHECK.no("a thirteenth", x.joint(0, 19));
        CHECK.same("a refused one makes no joint", x.position(13), RouteInterlocking.NONE);
    }

    private static void jointNeedsAFreeYard() {
        RouteInterlocking x = Yards.line();
        x.put(2, 19);
        CHECK.no("joint with a train", x.joint(8, 10));
        x.turn(2, 0);
        CHECK.yes("joint when it has gone", x.joint(8, 10));
        x.set(0);
        CHECK.no("joint with a set route", x.joint(11, 12));
        x.put(0, 1);
        x.cancel(0);
        x.turn(0, 0);
        CHECK.no("joint with a route that is being cancelled", x.joint(11, 12));
        x.tick(3);
        CHECK.yes("joint when it is not set any more", x.joint(11, 12));
    }

    private static void jointResetsPoints() {
        RouteInterlocking x = Yards.fork();
        x.set(1);
        x.cancel(1);
        CHECK.same("a position stays after the cancel", x.position(1), 1);
        CHECK.yes("joint elsewhere", x.joint(10, 12));
        CHECK.same("all points have the position 0 then", x.position(1), 0);
    }

    private static void refusedJointKeepsPoints() {
        RouteInterlocking x = Yards.fork();
        x.set(1);
        x.cancel(1);
        CHECK.no("third joint", x.joint(1, 8));
        CHECK.no("same section", x.joint(8, 9));
        CHECK.no("outside", x.joint(8, 20));
        CHECK.same("a refused joint changes no point", x.position(1), 1);
    }

    private static void signalRefusals() {
        RouteInterlocking x = new RouteInterlocking();
        int[] outside = {-1, 20, Integer.MIN_VALUE, Integer.MAX_VALUE};
        for (int a : outside) {
            CHECK.no("signal(" + a + ", true)", x.signal(a, true));
            CHECK.no("signal(" + a + ", false)", x.signal(a, false));
        }
        for (int a = 0; a < 20; a++) {
            CHECK.no("off already at " + a, x.signal(a, false));
            CHECK.yes("on at " + a, x.signal(a, true));
            CHECK.no("on already at " + a, x.signal(a, true));
            CHECK.yes("off at " + a, x.signal(a, false));
            CHECK.no("off again at " + a, x.signal(a, false));
        }
    }

    private static void signalNeedsAFreeYard() {
        RouteInterlocking x = Yards.line();
        x.put(0, 18);
        CHECK.no("signal on with a train", x.signal(3, true));
        CHECK.no("signal off with a train", x.signal(1, false));
        x.turn(0, 0);
        x.set(0);
        CHECK.no("signal on with a set route", x.signal(3, true));
        CHECK.no("signal off with a set route", x.signal(1, false));
        x.cancel(0);
        CHECK.yes("signal off in a free yard", x.signal(1, false));
        CHECK.same("no signal, no route", x.routes(), 0);
        CHECK.yes("signal on in a free yard", x.signal(1, true));
        CHECK.same("the route is there again", x.routes(), 1);
    }

    private static void signalKeepsPoints() {
        RouteInterlocking x = Yards.fork();
        x.set(1);
        x.cancel(1);
        CHECK.yes("signal elsewhere", x.signal(9, true));
        CHECK.same("a signal moves no point", x.position(1), 1);
    }

    private static void routesEndAtSignalOrAtNoJoint() {
        RouteInterlocking x = Yards.line();
        CHECK.same("one route to the end of the line", x.routes(), 1);
        CHECK.same("of three joints", x.via(0, 2), 2);
        x.signal(5, true);
        CHECK.same("a signal on the way makes two", x.routes(), 2);
        CHECK.same("the first one ends there", x.via(0, 1), 1);
        CHECK.same("the first one ends there", x.via(0, 2), RouteInterlocking.NONE);
        CHECK.same("the second one goes on", x.via(1, 0), 2);
        x.signal(4, true);
        CHECK.same("a signal at an end by which one comes in stops nothing", x.via(0, 1), 1);
        CHECK.same("but begins one of its own", x.routes(), 3);
        RouteInterlocking bare = Yards.with(new int[] {1, 2}, 5, 0);
        CHECK.same("signals at ends without a joint begin no route", bare.routes(), 0);
    }

    private static void routesHaveOneToFiveJoints() {
        int[] line = {1, 2, 3, 4, 5, 6, 7, 8, 9, 10, 11, 12};
        RouteInterlocking x = Yards.with(line, 1);
        CHECK.same("six joints are too many", x.routes(), 0);
        x.signal(11, true);
        CHECK.same("five are a route", x.routes(), 2);
        CHECK.same("its fifth joint", x.via(0, 4), 4);
        CHECK.same("it has no sixth", x.via(0, 5), RouteInterlocking.NONE);
        CHECK.same("one joint is a route", x.via(1, 0), 5);
        CHECK.same("of one joint", x.via(1, 1), RouteInterlocking.NONE);
    }

    private static void routesEnterNoSectionTwice() {
        RouteInterlocking ring = Yards.with(new int[] {1, 2, 3, 4, 5, 0}, 1);
        CHECK.same("a way into the signal's own section is no route", ring.routes(), 0);
        RouteInterlocking loop = Yards.with(new int[] {1, 2, 3, 4, 5, 6, 7, 2}, 1);
        CHECK.same("a way into a section entered before is no route", loop.routes(), 0);
        RouteInterlocking back = Yards.with(new int[] {1, 2, 3, 4, 5, 1}, 1);
        CHECK.same("nor one back to the signal's end", back.routes(), 0);
        RouteInterlocking balloon = Yards.with(new int[] {1, 2, 3, 4, 5, 6, 7, 3}, 1, 2);
        CHECK.same("nor one round a loop, back to a signal in a section entered before", balloon.routes(), 1);
        CHECK.same("but the one that leaves it", balloon.hops(2, 0), 1);
    }

    private static void routesAreOrdered() {
        RouteInterlocking x = Yards.with(new int[] {3, 8, 3, 6, 1, 4, 1, 2, 10, 0}, 10, 1, 0);
        lists(x, new int[][] {{4}, {2}, {3, 0}, {3, 1}, {4}});
        x.signal(1, false);
        lists(x, new int[][] {{4}, {4, 2}, {4, 3, 0}, {4, 3, 1}});
        x.signal(0, false);
        lists(x, new int[][] {{4, 2}, {4, 3, 0}, {4, 3, 1}});
    }

    private static void lists(RouteInterlocking x, int[][] due) {
        CHECK.same("routes", x.routes(), due.length);
        for (int r = 0; r < due.length; r++) {
            for (int i = 0; i <= due[r].length; i++) {
                CHECK.same("via(" + r + ", " + i + ")", x.via(r, i), i < due[r].length ? due[r][i] : RouteInterlocking.NONE);
            }
        }
    }

    private static void onlySixteenRoutesCount() {
        RouteInterlocking x = Yards.with(Yards.mesh(), 1, 3);
        CHECK.same("eight from each", x.routes(), 16);
        CHECK.same("the last one's list", x.via(15, 0) * 10000 + x.via(15, 1) * 100 + x.via(15, 2), 3 * 10000 + 7 * 100 + 11);
        x.signal(12, true);
        CHECK.same("more do not count", x.routes(), 16);
        CHECK.same("no route 16", x.via(16, 0), RouteInterlocking.BAD);
        CHECK.no("nor can it be set", x.set(16));
        CHECK.same("hops takes only those that count", x.hops(12, 0), RouteInterlocking.NONE);
        x.signal(1, false);
        CHECK.same("without the first eight the later ones count", x.hops(12, 0), 1);
    }

    private static void viaAnswers() {
        RouteInterlocking x = Yards.merge();
        int[][] due = {{0, 2, 3}, {1, 2, 3}};
        for (int r = 0; r < 2; r++) {
            for (int i = 0; i < 3; i++) {
                CHECK.same("via(" + r + ", " + i + ")", x.via(r, i), due[r][i]);
            }
            int[] none = {-1, 3, 4, 5, 6, Integer.MIN_VALUE, Integer.MAX_VALUE};
            for (int i : none) {
                CHECK.same("via(" + r + ", " + i + ")", x.via(r, i), RouteInterlocking.NONE);
            }
        }
        int[] bad = {-1, 2, 16, Integer.MIN_VALUE, Integer.MAX_VALUE};
        for (int r : bad) {
            CHECK.same("via(" + r + ", 0)", x.via(r, 0), RouteInterlocking.BAD);
            CHECK.same("via(" + r + ", -1)", x.via(r, -1), RouteInterlocking.BAD);
        }
    }

    private static void positionAnswers() {
        RouteInterlocking x = Yards.merge();
        CHECK.same("a point at first", x.position(4), 0);
        x.set(1);
        CHECK.same("the joint with the greater number", x.position(4), 1);
        x.cancel(1);
        x.set(0);
        CHECK.same("the joint with the smaller number", x.position(4), 0);
        CHECK.same("one joint is no point", x.position(5), RouteInterlocking.NONE);
        CHECK.same("no joint is no point", x.position(19), RouteInterlocking.NONE);
        int[] bad = {-1, 20, Integer.MIN_VALUE, Integer.MAX_VALUE};
        for (int a : bad) {
            CHECK.same("position(" + a + ")", x.position(a), RouteInterlocking.BAD);
        }
    }
}
