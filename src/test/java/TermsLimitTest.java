/** The sentences under "Terms" that name a number or a limit: each has a test of its own. */
public final class TermsLimitTest {
    private static final Check CHECK = new Check("TermsLimitTest");
    private static final int NONE = RouteInterlocking.NONE;
    private static final int BAD = RouteInterlocking.BAD;

    public static void main(String[] args) {
        tenSections();
        endsAndTheirOpposites();
        twelveJointsFromZero();
        jointsOfDifferentSections();
        twoJointsAnEnd();
        pointIsAnEndWithTwoJoints();
        positionCountsTheSmallerNumberFirst();
        everyEndMayHaveASignal();
        wayOfOneToFiveJoints();
        wayWithAForkAtItsFifthJoint();
        sectionsDifferFromEachOther();
        sectionsDifferFromTheSignals();
        lastSectionEndsAtASignalOrNoJoint();
        needsBothEndsOfEveryJoint();
        routesAreOrderedByEndThenByList();
        routesAreNumberedFromZero();
        fifteenSixteenSeventeen();
        sixteenthMayStandInTheMidstOfASignal();
        sixteenthMayHaveFiveJoints();
        routesBeyondTheSixteenthDoNothing();
        threeTrains();
        lockedAreTheSectionsEntered();
        pointIsFast();
        canBeSetSectionBySection();
        canBeSetPointByPoint();
        threeTicksToWait();
        cancelledOnesWaitEachForItself();
        movesThroughARouteOfOneJoint();
        movesThroughARouteOfFiveJoints();
        needsGoWithTheSectionTheyLedTo();
        needsOfTheNextRouteStay();
        CHECK.end();
    }

    private static void tenSections() {
        CHECK.under("There are 10 SECTIONS, 0 to 9");
        for (int s = 0; s < 10; s++) {
            int from = 2 * ((s + 1) % 10);
            RouteInterlocking x = Yards.with(new int[] {from, 2 * s}, from);
            CHECK.yes("a route into section " + s, x.set(0));
            CHECK.same("lock(" + s + ")", x.lock(s), 0);
            CHECK.yes("a train in section " + from / 2, x.put(0, from));
        }
        RouteInterlocking x = new RouteInterlocking();
        CHECK.same("lock(10)", x.lock(10), BAD);
        CHECK.no("a joint to section 10", x.joint(0, 20));
        CHECK.no("a train in section 10", x.put(0, 20));
    }

    private static void endsAndTheirOpposites() {
        CHECK.under("end e of section s is written 2 s + e (0 to 19), and its OPPOSITE end is the other one of the same section");
        for (int in = 0; in < 20; in++) {
            int from = (in + 2) % 20;
            RouteInterlocking x = Yards.with(new int[] {from, in}, from);
            x.put(0, from);
            x.set(0);
            CHECK.same("the section of end " + in + " is locked", x.lock(in / 2), 0);
            x.tick(1);
            CHECK.same("in by end " + in, x.train(0), in % 2 == 0 ? in + 1 : in - 1);
        }
    }

    private static void twelveJointsFromZero() {
        CHECK.under("Up to 12 JOINTS, numbered from 0");
        RouteInterlocking x = new RouteInterlocking();
        int[] mesh = Yards.mesh();
        for (int j = 0; j < 12; j++) {
            CHECK.yes("joint number " + j, x.joint(mesh[2 * j], mesh[2 * j + 1]));
        }
        CHECK.no("a thirteenth", x.joint(0, 19));
        CHECK.no("a thirteenth", x.joint(17, 18));
        x.signal(1, true);
        x.signal(3, true);
        CHECK.same("the first one's number", x.via(0, 0), 0);
        CHECK.same("the twelfth one's number", x.via(15, 2), 11);
    }

    private static void jointsOfDifferentSections() {
        CHECK.under("each join two ends of different sections");
        RouteInterlocking x = new RouteInterlocking();
        for (int a = 0; a < 20; a++) {
            CHECK.no("joint(" + a + ", " + a + ")", x.joint(a, a));
            CHECK.no("joint(" + a + ", its opposite)", x.joint(a, a ^ 1));
        }
        for (int s = 0; s < 9; s++) {
            RouteInterlocking y = new RouteInterlocking();
            CHECK.yes("sections next to each other", y.joint(2 * s + 1, 2 * s + 2));
            CHECK.yes("the same sections, the other ends", y.joint(2 * s, 2 * s + 3));
        }
    }

    private static void twoJointsAnEnd() {
        CHECK.under("an end has at most 2 joints");
        for (int a = 0; a < 20; a++) {
            RouteInterlocking x = new RouteInterlocking();
            int third = (a + 6) % 20;
            CHECK.yes("a first joint at " + a, x.joint(a, (a + 2) % 20));
            CHECK.yes("a second joint at " + a, x.joint((a + 4) % 20, a));
            CHECK.no("a third joint at " + a, x.joint(a, third));
            CHECK.no("a third joint at " + a + ", named second", x.joint(third, a));
            CHECK.yes("the opposite end has none of them", x.joint(a ^ 1, third));
        }
    }

    private static void pointIsAnEndWithTwoJoints() {
        CHECK.under("An end with two joints is a POINT; it has a POSITION, 0 at first");
        for (int a = 0; a < 20; a++) {
            RouteInterlocking x = new RouteInterlocking();
            CHECK.same("no joint at " + a, x.position(a), NONE);
            x.joint(a, (a + 2) % 20);
            CHECK.same("one joint at " + a, x.position(a), NONE);
            x.joint((a + 4) % 20, a);
            CHECK.same("two joints at " + a, x.position(a), 0);
            CHECK.same("no joint at its opposite", x.position(a ^ 1), NONE);
        }
    }

    private static void positionCountsTheSmallerNumberFirst() {
        CHECK.under("the number, 0 or 1, of the one of its joints, the one with the smaller number counted first, that is connected");
        for (int a = 0; a < 20; a++) {
            int one = (a + 4) % 20;
            int two = (a + 2) % 20;
            RouteInterlocking out = Yards.with(new int[] {a, one, two, a}, a);
            out.set(1);
            CHECK.same("out by the second joint of " + a, out.position(a), 1);
            out.cancel(1);
            out.set(0);
            CHECK.same("out by the first joint of " + a, out.position(a), 0);

            RouteInterlocking in = Yards.with(new int[] {one, a, a, two}, one, two);
            int second = one < two ? 1 : 0;
            in.set(second);
            CHECK.same("in by the second joint of " + a, in.position(a), 1);
            in.cancel(second);
            in.set(1 - second);
            CHECK.same("in by the first joint of " + a, in.position(a), 0);
        }
    }

    private static void everyEndMayHaveASignal() {
        CHECK.under("An end may have a SIGNAL");
        RouteInterlocking x = new RouteInterlocking();
        for (int a = 0; a < 20; a++) {
            CHECK.yes("a signal at " + a, x.signal(a, true));
        }
        for (int a = 0; a < 20; a++) {
            CHECK.no("it is there", x.signal(a, true));
        }
        for (int a = 0; a < 20; a++) {
            CHECK.yes("none any more at " + a, x.signal(a, false));
        }
    }

    private static void wayOfOneToFiveJoints() {
        CHECK.under("A WAY from an end with a signal is a list of 1 to 5 joints");
        CHECK.same("a signal without a joint", Yards.with(new int[] {}, 1).routes(), 0);
        for (int n = 1; n <= 9; n++) {
            RouteInterlocking x = Yards.with(Yards.lineOf(n), 1);
            CHECK.same(n + " joints to the end of the line", x.routes(), n <= 5 ? 1 : 0);
            CHECK.same("the last of " + n, x.via(0, n - 1), n <= 5 ? n - 1 : BAD);
            CHECK.same("one after the last of " + n, x.via(0, n), n <= 5 ? NONE : BAD);
        }
        for (int n = 1; n <= 8; n++) {
            RouteInterlocking x = Yards.with(Yards.lineOf(9), 1, 2 * n + 1);
            boolean onwards = 9 - n <= 5;
            CHECK.same(n + " joints to a signal", x.routes(), (n <= 5 ? 1 : 0) + (onwards ? 1 : 0));
            CHECK.same("its first joint", x.via(0, 0), n <= 5 ? 0 : n);
        }
    }

    private static void wayWithAForkAtItsFifthJoint() {
        CHECK.under("a list of 1 to 5 joints: ... and so on");
        RouteInterlocking fifth = Yards.with(new int[] {1, 2, 3, 4, 5, 6, 7, 8, 9, 10, 9, 12}, 1);
        CHECK.same("a fork at the fifth joint", fifth.routes(), 2);
        CHECK.same("one side", fifth.via(0, 4), 4);
        CHECK.same("the other side", fifth.via(1, 4), 5);
        RouteInterlocking sixth = Yards.with(new int[] {1, 2, 3, 4, 5, 6, 7, 8, 9, 10, 11, 12, 11, 14}, 1);
        CHECK.same("a fork at the sixth joint", sixth.routes(), 0);
        RouteInterlocking uneven = Yards.with(new int[] {1, 2, 3, 4, 5, 6, 7, 8, 9, 10, 11, 12, 7, 14}, 1);
        CHECK.same("of six and of four joints", uneven.routes(), 1);
        CHECK.same("the one of four", uneven.via(0, 3), 6);
        CHECK.same("the one of four", uneven.via(0, 4), NONE);
    }

    private static void sectionsDifferFromEachOther() {
        CHECK.under("It is a ROUTE iff all sections entered differ from each other");
        CHECK.same("back by the end by which it came in", Yards.with(new int[] {1, 2, 3, 4, 5, 6, 7, 2}, 1).routes(), 0);
        CHECK.same("back by the other end", Yards.with(new int[] {1, 2, 3, 4, 5, 6, 7, 3}, 1).routes(), 0);
        // These come back to a section where the other end has a signal, so that nothing else forbids them.
        RouteInterlocking fourth = Yards.with(new int[] {1, 2, 3, 4, 5, 6, 7, 3}, 1, 2);
        CHECK.same("back to a signal by the fourth joint", fourth.routes(), 1);
        CHECK.same("the one there is comes from that signal", fourth.hops(2, 0), 1);
        RouteInterlocking fifth = Yards.with(new int[] {1, 2, 3, 4, 5, 6, 7, 8, 9, 3}, 1, 2);
        CHECK.same("back to a signal by the fifth joint", fifth.routes(), 1);
        CHECK.same("the one there is comes from that signal", fifth.hops(2, 0), 1);
        RouteInterlocking kept = Yards.with(new int[] {1, 2, 3, 4, 5, 6, 7, 2, 5, 10}, 1);
        CHECK.same("the way that leaves the loop", kept.routes(), 1);
        CHECK.same("by this joint", kept.via(0, 2), 4);
    }

    private static void sectionsDifferFromTheSignals() {
        CHECK.under("... and from the section of the signal");
        CHECK.same("by the signal's end", Yards.with(new int[] {1, 2, 3, 1}, 1).routes(), 0);
        CHECK.same("by the other end", Yards.with(new int[] {1, 2, 3, 0}, 1).routes(), 0);
        CHECK.same("to another signal of that section", Yards.with(new int[] {1, 2, 3, 1}, 1, 0).routes(), 0);
        CHECK.same("to the signal itself, by the fifth joint",
            Yards.with(new int[] {1, 2, 3, 4, 5, 6, 7, 8, 9, 0}, 1).routes(), 0);
        CHECK.same("one section before is a route", Yards.with(new int[] {1, 2, 3, 4, 5, 6, 7, 8, 9, 0}, 1, 9).routes(), 2);
    }

    private static void lastSectionEndsAtASignalOrNoJoint() {
        CHECK.under("the opposite end of the last section entered has a signal or no joint, and those of the sections entered before have joints and no signal");
        RouteInterlocking x = Yards.with(Yards.lineOf(4), 1);
        CHECK.same("to the section without a joint", x.via(0, 3), 3);
        x.signal(9, true);
        CHECK.same("a signal there too is no matter", x.via(0, 3), 3);
        for (int s = 3; s >= 1; s--) {
            x.signal(2 * s, true);
            CHECK.same("a signal at the end by which it comes in is passed", x.via(0, 3), 3);
            x.signal(2 * s, false);
        }
        for (int s = 3; s >= 1; s--) {
            x.signal(2 * s + 1, true);
            CHECK.same("it goes to the signal in section " + s, x.via(0, s - 1), s - 1);
            CHECK.same("and no further", x.via(0, s), NONE);
        }
    }

    /** Joint 0 comes from section 9 and makes one end of the line a point, whose position 1 the line needs then. */
    private static void needsBothEndsOfEveryJoint() {
        CHECK.under("It NEEDS, for every joint in it and both ends of that, if that end is a point, the position of the joint");
        for (int end = 1; end <= 10; end++) {
            int[] joints = {18, end, 1, 2, 3, 4, 5, 6, 7, 8, 9, 10};
            RouteInterlocking x = Yards.with(joints, 1);
            boolean forked = end % 2 == 1;
            CHECK.same("the branch at " + end, x.routes(), forked ? 2 : 1);
            CHECK.same("at first", x.position(end), 0);
            CHECK.yes("along the line", x.set(forked ? 1 : 0));
            for (int a = 0; a < 20; a++) {
                CHECK.same("the branch at " + end + ", position(" + a + ")", x.position(a), a == end ? 1 : NONE);
            }
        }
    }

    private static void routesAreOrderedByEndThenByList() {
        CHECK.under("Routes are ordered by the end of their signal, those from the same end by their lists of joints (the first joint that differs decides)");
        RouteInterlocking ends = Yards.with(new int[] {19, 16, 10, 8, 2, 4, 0, 6}, 19, 10, 2, 0);
        for (int r = 0; r < 4; r++) {
            CHECK.same("the smallest end is first, not the smallest joint", ends.via(r, 0), 3 - r);
        }
        // The fork at the signal was made by joints 4 and 1; behind joint 1 the ones with the great numbers follow.
        RouteInterlocking lists = Yards.with(new int[] {5, 8, 1, 2, 3, 10, 11, 12, 1, 4}, 1);
        CHECK.same("two lists", lists.routes(), 2);
        CHECK.same("1 2 3 comes before 4 0", lists.via(0, 0) * 100 + lists.via(0, 1) * 10 + lists.via(0, 2), 123);
        CHECK.same("4 0 is the second", lists.via(1, 0) * 10 + lists.via(1, 1), 40);
        CHECK.same("and has no third", lists.via(1, 2), NONE);
        RouteInterlocking late = Yards.with(new int[] {9, 12, 9, 10, 7, 8, 5, 6, 3, 4, 1, 2}, 1);
        CHECK.same("the fifth joint decides", late.via(0, 4), 0);
        CHECK.same("the fifth joint decides", late.via(1, 4), 1);
    }

    private static void routesAreNumberedFromZero() {
        CHECK.under("they are numbered from 0");
        RouteInterlocking x = Yards.line();
        CHECK.same("the only one is 0", x.via(0, 0), 0);
        CHECK.same("there is no 1", x.via(1, 0), BAD);
        CHECK.same("there is no -1", x.via(-1, 0), BAD);
    }

    private static void fifteenSixteenSeventeen() {
        CHECK.under("Only the first 16 count");
        for (int ways = 14; ways <= 20; ways++) {
            RouteInterlocking x = Yards.ring(ways);
            CHECK.same(ways + " ways", x.routes(), ways < 16 ? ways : 16);
            CHECK.same("the fifteenth of " + ways, x.via(14, 0), ways > 14 ? 6 : BAD);
            CHECK.same("the sixteenth of " + ways, x.via(15, 0), ways > 15 ? 7 : BAD);
            CHECK.same("a seventeenth of " + ways, x.via(16, 0), BAD);
        }
    }

    /** The mesh without one of its joints has 6 routes from each of ends 1, 3 and 12: four of the last six count. */
    private static void sixteenthMayStandInTheMidstOfASignal() {
        CHECK.under("Only the first 16 count: those from one end may be cut");
        RouteInterlocking x = Yards.with(cutMesh(), 1, 3, 12);
        CHECK.same("of 18", x.routes(), 16);
        int[][] lists = {{7, 4, 0}, {7, 4, 2}, {7, 6, 1}, {7, 6, 3}};
        for (int r = 12; r < 16; r++) {
            for (int i = 0; i < 3; i++) {
                CHECK.same("via(" + r + ", " + i + ")", x.via(r, i), lists[r - 12][i]);
            }
        }
        x.signal(3, false);
        CHECK.same("without end 3 all count", x.routes(), 12);
        CHECK.same("also the last one", x.via(11, 0) * 100 + x.via(11, 1) * 10 + x.via(11, 2), 952);
    }

    /** A ring with a signal at each even end, and at 9 and the odd ends above: the last route goes from 19 to 9. */
    private static void sixteenthMayHaveFiveJoints() {
        CHECK.under("a list of 1 to 5 joints; Only the first 16 count (five joints in the sixteenth)");
        RouteInterlocking x = Yards.ring(0);
        for (int a = 0; a < 20; a++) {
            if (a % 2 == 0 || a >= 9) {
                x.signal(a, true);
            }
        }
        CHECK.same("routes()", x.routes(), 16);
        for (int i = 0; i <= 5; i++) {
            CHECK.same("via(15, " + i + ")", x.via(15, i), i == 0 ? 9 : i < 5 ? i - 1 : NONE);
        }
        x.put(0, 19);
        CHECK.yes("set(15)", x.set(15));
        for (int s = 0; s < 10; s++) {
            CHECK.same("lock(" + s + ")", x.lock(s), s < 5 ? 15 : NONE);
        }
        CHECK.same("five moves", x.tick(20), 5);
        CHECK.same("it has come to the signal at 9", x.train(0), 9);
        CHECK.same("lock(4)", x.lock(4), NONE);
    }

    private static int[] cutMesh() {
        return new int[] {1, 4, 1, 6, 3, 4, 3, 6, 5, 8, 5, 10, 7, 8, 9, 12, 9, 14, 11, 12, 11, 14};
    }

    /** Sections 8 and 9 are joined to each other alone: their routes come after 18 others, or after 12. */
    private static void routesBeyondTheSixteenthDoNothing() {
        CHECK.under("Only the first 16 count: no other is there for any call");
        RouteInterlocking x = Yards.with(cutMesh(), 1, 3, 12);
        x.joint(17, 18);
        x.signal(17, true);
        x.signal(18, true);
        CHECK.same("routes()", x.routes(), 16);
        for (int r = 16; r < 20; r++) {
            CHECK.no("set(" + r + ")", x.set(r));
            CHECK.no("cancel(" + r + ")", x.cancel(r));
            CHECK.same("blocked(" + r + ")", x.blocked(r), BAD);
            CHECK.same("via(" + r + ", 0)", x.via(r, 0), BAD);
            CHECK.no("conflict(" + r + ", " + r + ")", x.conflict(r, r));
            CHECK.no("conflict(0, " + r + ")", x.conflict(0, r));
        }
        CHECK.same("hops(17, 9)", x.hops(17, 9), NONE);
        CHECK.same("hops(18, 8)", x.hops(18, 8), NONE);
        int few = x.largest();
        x.signal(12, false);
        CHECK.same("now they count", x.routes(), 14);
        CHECK.same("hops(17, 9) when it counts", x.hops(17, 9), 1);
        CHECK.same("hops(18, 8) when it counts", x.hops(18, 8), 1);
        CHECK.same("largest() when they count", x.largest(), 4);
        CHECK.same("largest() without them", few, 2);
        CHECK.yes("set(13)", x.set(13));
    }

    private static void threeTrains() {
        CHECK.under("There are 3 TRAINS, 0 to 2, each ABSENT or in a section");
        RouteInterlocking x = Yards.with(new int[] {1, 2, 3, 4, 7, 8, 9, 10, 13, 14, 15, 16}, 1, 7, 13);
        for (int t = 0; t < 3; t++) {
            CHECK.same("absent at first", x.train(t), NONE);
            CHECK.yes("train " + t, x.put(t, 6 * t + 1));
            CHECK.yes("its route", x.set(t));
        }
        CHECK.no("a fourth train", x.put(3, 19));
        CHECK.no("a train before the first", x.put(-1, 19));
        CHECK.same("three moves in a tick", x.tick(1), 3);
        for (int t = 0; t < 3; t++) {
            CHECK.same("all under way, train " + t, x.train(t), 100 * (t + 1) + 6 * t + 3);
        }
        CHECK.same("three moves more", x.tick(20), 3);
    }

    private static void lockedAreTheSectionsEntered() {
        CHECK.under("A route may be SET; then the sections that it enters are LOCKED by it");
        for (int n = 1; n <= 5; n++) {
            RouteInterlocking x = Yards.with(Yards.lineOf(n), 1);
            x.set(0);
            for (int s = 0; s < 10; s++) {
                CHECK.same("a route of " + n + ", lock(" + s + ")", x.lock(s), 1 <= s && s <= n ? 0 : NONE);
            }
        }
    }

    private static void pointIsFast() {
        CHECK.under("A point is FAST if its section is occupied, or a need for it holds");
        for (int t = 0; t < 3; t++) {
            for (int end = 0; end <= 1; end++) {
                RouteInterlocking x = Yards.fork();
                CHECK.same("neither", x.blocked(1), 0);
                x.put(t, end);
                CHECK.same("occupied by train " + t + " that heads for " + end, x.blocked(1), 4);
                x.set(0);
                CHECK.same("both", x.blocked(1), 4);
                x.turn(t, 0);
                CHECK.same("a need alone", x.blocked(1), 4);
                x.cancel(0);
                CHECK.same("neither again", x.blocked(1), 0);
            }
        }
    }

    private static void canBeSetSectionBySection() {
        CHECK.under("A route CAN BE SET iff it is not set, none of the sections that it enters is occupied or locked");
        for (int s = 0; s < 10; s++) {
            RouteInterlocking x = Yards.with(Yards.lineOf(5), 1);
            boolean entered = 1 <= s && s <= 5;
            x.put(0, 2 * s);
            CHECK.same("section " + s + " occupied", x.blocked(0), entered ? 2 : 0);
            CHECK.same("section " + s + " occupied", x.set(0) ? 1 : 0, entered ? 0 : 1);
        }
        for (int s = 1; s <= 5; s++) {
            // From section 9 a route comes in at s and goes on to the end of the line.
            int[] joints = {1, 2, 3, 4, 5, 6, 7, 8, 9, 10, 18, 2 * s};
            RouteInterlocking x = Yards.with(joints, 1, 18);
            x.set(1);
            CHECK.same("locked from section " + s + " on", x.blocked(0), 3);
            CHECK.no("locked from section " + s + " on", x.set(0));
            // Back from section s + 1 a route goes through s and all before it.
            RouteInterlocking y = Yards.with(Yards.lineOf(5), 1);
            if (s < 5) {
                y.signal(2 * s + 2, true);
                y.set(1);
                CHECK.same("locked up to section " + s, y.blocked(0), 3);
                CHECK.no("locked up to section " + s, y.set(0));
            }
        }
    }

    /** A branch from an end by which the line comes into a section: the route over it locks section 9 alone. */
    private static void canBeSetPointByPoint() {
        CHECK.under("and every point that it needs in another position than it has is not fast. To set it gives its points their positions");
        for (int i = 0; i < 5; i++) {
            int end = 2 * i + 2;
            int[] joints = {1, 2, 3, 4, 5, 6, 7, 8, 9, 10, end, 18};
            RouteInterlocking x = Yards.with(joints, 1, end);
            int branch = x.routes() - 1;
            CHECK.yes("the branch at " + end, x.set(branch));
            CHECK.same("the branch at " + end, x.position(end), 1);
            CHECK.same("a point of joint " + i + " is fast", x.blocked(0), 4);
            CHECK.no("a point of joint " + i + " is fast", x.set(0));
            CHECK.same("it stays", x.position(end), 1);
            x.cancel(branch);
            CHECK.same("it is not fast any more", x.blocked(0), 0);
            CHECK.yes("it is not fast any more", x.set(0));
            CHECK.same("it goes over", x.position(end), 0);
            CHECK.same("now it is fast the other way", x.blocked(branch), 4);
        }
    }

    private static void threeTicksToWait() {
        CHECK.under("it is being cancelled, with 3 ticks to wait; with none left it is not set any more, and all its locks and needs are released");
        RouteInterlocking x = Yards.with(new int[] {1, 2, 1, 8, 3, 4}, 1);
        x.put(0, 1);
        x.set(0);
        x.cancel(0);
        x.turn(0, 0);
        for (int n = 0; n <= 3; n++) {
            CHECK.same("set after " + n, x.blocked(0), n < 3 ? 1 : 0);
            CHECK.same("lock(1) after " + n, x.lock(1), n < 3 ? 0 : NONE);
            CHECK.same("lock(2) after " + n, x.lock(2), n < 3 ? 0 : NONE);
            CHECK.same("the point is held after " + n, x.blocked(1), n < 3 ? 4 : 0);
            CHECK.same("no move", x.tick(1), 0);
        }
    }

    private static void cancelledOnesWaitEachForItself() {
        CHECK.under("every set route that is being cancelled has one tick less to wait");
        RouteInterlocking x = Yards.pairs();
        int[] routes = {0, 2, 9};
        int[] ends = {1, 5, 18};
        int[] sections = {1, 3, 8};
        for (int n = 0; n < 6; n++) {
            if (n < 3) {
                x.put(n, ends[n]);
                x.set(routes[n]);
                CHECK.yes("cancel(" + routes[n] + ")", x.cancel(routes[n]));
            }
            CHECK.same("no move in tick " + n, x.tick(1), 0);
            for (int k = 0; k < 3; k++) {
                boolean waits = k <= n && n < k + 2;
                CHECK.same("route " + routes[k] + " after tick " + n, x.lock(sections[k]), waits ? routes[k] : NONE);
            }
        }
    }

    private static void movesThroughARouteOfOneJoint() {
        CHECK.under("When it comes to the route's last section it is not under way any more, the route is not set any more, and all its locks and needs are released");
        RouteInterlocking x = Yards.fork();
        x.put(0, 1);
        x.set(0);
        CHECK.same("one move", x.tick(1), 1);
        CHECK.same("it has come and is not under way", x.train(0), 3);
        CHECK.same("its lock is released", x.lock(1), NONE);
        CHECK.same("its need is released", x.blocked(1), 0);
        CHECK.same("it is not set, only occupied", x.blocked(0), 2);
        CHECK.no("there is nothing to cancel", x.cancel(0));
        CHECK.same("no move more", x.tick(20), 0);
    }

    private static void movesThroughARouteOfFiveJoints() {
        CHECK.under("It moves from its section to the next one that the route enters, heading for the opposite end; the section that it leaves is not occupied any more, its lock is released");
        RouteInterlocking x = Yards.with(Yards.lineOf(5), 1);
        x.put(0, 1);
        x.set(0);
        for (int n = 1; n <= 5; n++) {
            CHECK.same("move " + n, x.tick(1), 1);
            CHECK.same("where it is after " + n, x.train(0), 2 * n + 1 + (n < 5 ? 100 : 0));
            for (int s = 0; s < 10; s++) {
                boolean locked = n < 5 && n <= s && s <= 5;
                CHECK.same("lock(" + s + ") after " + n, x.lock(s), locked ? 0 : NONE);
            }
            CHECK.yes("the section that it left is free", x.put(1, 2 * n - 2));
            CHECK.no("the one where it is is not", x.put(2, 2 * n));
            x.turn(1, 0);
        }
        CHECK.same("no sixth move", x.tick(20), 0);
    }

    /** A fork at the signal: its point is needed by the first joint, which led the train into section 1. */
    private static void needsGoWithTheSectionTheyLedTo() {
        CHECK.under("and so are the needs for the joint by which it had come into that section on this route");
        RouteInterlocking x = Yards.with(new int[] {1, 2, 1, 18, 3, 4, 5, 6}, 1);
        x.put(0, 1);
        x.set(0);
        x.tick(1);
        CHECK.same("it left the signal's section, into which no joint led", x.blocked(1), 4);
        x.tick(1);
        CHECK.same("it left section 1", x.blocked(1), 0);
        CHECK.same("the route is still set", x.blocked(0), 1);
    }

    /** Route 0 has all five joints; route 1, which comes next, needs a point by its first one, and route 2 needs it otherwise. */
    private static void needsOfTheNextRouteStay() {
        CHECK.under("it is not set any more, and all its locks and needs are released (no others)");
        int[] joints = {1, 2, 3, 4, 5, 6, 7, 8, 9, 10, 13, 14, 13, 16};
        RouteInterlocking cancelled = Yards.with(joints, 1, 13);
        cancelled.set(0);
        cancelled.set(1);
        cancelled.cancel(0);
        CHECK.same("route 0 is cancelled", cancelled.blocked(2), 4);
        CHECK.same("route 0 is cancelled", cancelled.lock(7), 1);
        RouteInterlocking passed = Yards.with(joints, 1, 13);
        passed.set(0);
        passed.set(1);
        passed.put(0, 1);
        CHECK.same("a train has come to its last section", passed.tick(20), 5);
        CHECK.same("a train has come to its last section", passed.blocked(2), 4);
        CHECK.same("a train has come to its last section", passed.lock(7), 1);
    }
}
