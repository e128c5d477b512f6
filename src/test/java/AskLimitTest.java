/** Promises 9, 10, 11, 15, 16, 17 and the order in 18: a test of its own for each boundary case that a sentence of them names. */
public final class AskLimitTest {
    private static final Check CHECK = new Check("AskLimitTest");
    private static final int NONE = RouteInterlocking.NONE;
    private static final int BAD = RouteInterlocking.BAD;

    public static void main(String[] args) {
        routesFromNoneToSixteen();
        viaFromZero();
        viaNone();
        viaNoSuchRoute();
        positionOfAPoint();
        positionOutside();
        positionOfNoPoint();
        conflictOfASectionInCommon();
        conflictOfAPoint();
        conflictOfTheSame();
        conflictNoSuchRoute();
        largestOfNone();
        largestOfOneAndOfAll();
        largestOfSixteen();
        hopsOfOneRoute();
        hopsOfSixteenRoutes();
        hopsSmallestNumber();
        hopsToTheLastSectionOnly();
        hopsFromTheOppositeEndOnly();
        hopsToTheOwnSection();
        hopsOutside();
        hopsNone();
        badBeforeNoneInVia();
        badBeforeNoneInPositionLockAndTrain();
        badBeforeNoneAndZeroInHops();
        fiveHundredAndTwelveCalls();
        CHECK.end();
    }

    private static void routesFromNoneToSixteen() {
        CHECK.under("Promise 9: The number of routes that count");
        RouteInterlocking x = new RouteInterlocking();
        CHECK.same("of a new object", x.routes(), 0);
        x.joint(1, 2);
        CHECK.same("no signal", x.routes(), 0);
        x.signal(1, true);
        CHECK.same("one", x.routes(), 1);
        x.signal(1, false);
        CHECK.same("none again", x.routes(), 0);
        for (int n = 12; n <= 20; n++) {
            CHECK.same("of " + n, Yards.ring(n).routes(), n < 16 ? n : 16);
        }
    }

    private static void viaFromZero() {
        CHECK.under("Promise 10: Joint number i of route r, from 0");
        RouteInterlocking x = Yards.with(Yards.lineOf(5), 1);
        for (int i = 0; i < 5; i++) {
            CHECK.same("via(0, " + i + ")", x.via(0, i), i);
        }
        RouteInterlocking ring = Yards.ring(16);
        for (int i = 0; i < 3; i++) {
            CHECK.same("via(15, " + i + ")", ring.via(15, i), 7 + i);
        }
    }

    private static void viaNone() {
        CHECK.under("Promise 10: NONE if there is none");
        for (int n = 1; n <= 5; n++) {
            RouteInterlocking x = Yards.with(Yards.lineOf(n), 1);
            for (int i : Outside.of(n)) {
                CHECK.same("of " + n + ", via(0, " + i + ")", x.via(0, i), NONE);
            }
        }
        // The route before and the one after have joints where this one has none any more.
        RouteInterlocking ring = Yards.ring(20);
        for (int r = 0; r < 16; r++) {
            CHECK.same("via(" + r + ", -1)", ring.via(r, -1), NONE);
            CHECK.same("via(" + r + ", 1)", ring.via(r, 1), NONE);
            CHECK.same("via(" + r + ", 5)", ring.via(r, 5), NONE);
        }
    }

    private static void viaNoSuchRoute() {
        CHECK.under("Promise 10: BAD if there is no route r");
        RouteInterlocking one = Yards.line();
        RouteInterlocking full = Yards.ring(20);
        CHECK.same("none at all", new RouteInterlocking().via(0, 0), BAD);
        for (int r : Outside.of(1)) {
            CHECK.same("of one, via(" + r + ", 0)", one.via(r, 0), BAD);
        }
        for (int r : Outside.of(16)) {
            CHECK.same("of sixteen, via(" + r + ", 0)", full.via(r, 0), BAD);
        }
        one.signal(1, false);
        CHECK.same("one that was there", one.via(0, 0), BAD);
    }

    private static void positionOfAPoint() {
        CHECK.under("Promise 11: The position of an end that is a point");
        for (int a = 0; a < 20; a++) {
            RouteInterlocking x = Yards.with(new int[] {a, (a + 4) % 20, a, (a + 2) % 20}, a);
            CHECK.same("position(" + a + ") at first", x.position(a), 0);
            x.set(1);
            CHECK.same("position(" + a + ") for joint 1", x.position(a), 1);
            x.cancel(1);
            CHECK.same("it stays", x.position(a), 1);
            x.set(0);
            CHECK.same("position(" + a + ") for joint 0", x.position(a), 0);
        }
    }

    private static void positionOutside() {
        CHECK.under("Promise 11: BAD for a outside 0..19");
        RouteInterlocking x = Yards.with(Yards.mesh());
        for (int a : Outside.of(20)) {
            CHECK.same("position(" + a + ")", x.position(a), BAD);
        }
    }

    private static void positionOfNoPoint() {
        CHECK.under("Promise 11: NONE if it is no point");
        RouteInterlocking x = new RouteInterlocking();
        CHECK.same("no joint, position(0)", x.position(0), NONE);
        CHECK.same("no joint, position(19)", x.position(19), NONE);
        x.joint(0, 19);
        CHECK.same("one joint, position(0)", x.position(0), NONE);
        CHECK.same("one joint, position(19)", x.position(19), NONE);
        x.joint(4, 0);
        CHECK.same("two joints, position(0)", x.position(0), 0);
        CHECK.same("one joint, position(4)", x.position(4), NONE);
    }

    private static void conflictOfASectionInCommon() {
        CHECK.under("Promise 15: Whether two routes enter a section in common");
        // Route 0 goes up to section 5; the other one comes down from section n + 1 and enters section n alone.
        for (int n = 1; n <= 5; n++) {
            RouteInterlocking x = Yards.with(Yards.lineOf(6), 1, 11, 2 * n, 2 * n + 2);
            int down = n < 5 ? 2 : 3;
            CHECK.same("it begins with joint " + n, x.via(down, 0), n);
            CHECK.same("and has no other", x.via(down, 1), NONE);
            CHECK.yes("section " + n, x.conflict(0, down));
            CHECK.yes("section " + n + ", turned", x.conflict(down, 0));
        }
        RouteInterlocking chain = Yards.chain();
        CHECK.no("one begins where the other ends", chain.conflict(0, 1));
        CHECK.no("far from each other", chain.conflict(0, 2));
    }

    private static void conflictOfAPoint() {
        CHECK.under("Promise 15: or need a point in different positions");
        RouteInterlocking x = Yards.facing();
        CHECK.yes("different positions, and no section in common", x.conflict(0, 2));
        CHECK.yes("turned", x.conflict(2, 0));
        CHECK.no("the same position", x.conflict(0, 1));
        CHECK.no("turned", x.conflict(1, 0));
        CHECK.yes("from the same signal", x.conflict(1, 2));
        // A point at the far end of the fifth joint, for a route that begins there.
        RouteInterlocking far = Yards.with(new int[] {1, 2, 3, 4, 5, 6, 7, 8, 9, 10, 10, 18}, 1, 10);
        CHECK.yes("the fifth joint's far end", far.conflict(0, far.routes() - 1));
        CHECK.yes("turned", far.conflict(far.routes() - 1, 0));
        CHECK.same("and no section in common: they go by other points", far.via(far.routes() - 1, 0), 5);
    }

    private static void conflictOfTheSame() {
        CHECK.under("Promise 15: or are the same");
        RouteInterlocking x = Yards.ring(20);
        for (int r = 0; r < 16; r++) {
            CHECK.yes("conflict(" + r + ", " + r + ")", x.conflict(r, r));
        }
        CHECK.yes("the only one", Yards.line().conflict(0, 0));
    }

    private static void conflictNoSuchRoute() {
        CHECK.under("Promise 15: false if there is none");
        RouteInterlocking empty = new RouteInterlocking();
        RouteInterlocking full = Yards.ring(20);
        CHECK.no("none at all", empty.conflict(0, 0));
        for (int r : Outside.of(16)) {
            CHECK.no("conflict(" + r + ", 0)", full.conflict(r, 0));
            CHECK.no("conflict(0, " + r + ")", full.conflict(0, r));
            CHECK.no("conflict(" + r + ", " + r + ")", full.conflict(r, r));
        }
        RouteInterlocking fork = Yards.fork();
        for (int r : Outside.of(2)) {
            CHECK.no("of two, conflict(" + r + ", 1)", fork.conflict(r, 1));
            CHECK.no("of two, conflict(1, " + r + ")", fork.conflict(1, r));
            CHECK.no("of two, conflict(" + r + ", " + r + ")", fork.conflict(r, r));
        }
        fork.signal(1, false);
        CHECK.no("two that were there", fork.conflict(0, 1));
    }

    private static void largestOfNone() {
        CHECK.under("Promise 16: The greatest number of routes of which no two conflict (of none: 0)");
        RouteInterlocking x = new RouteInterlocking();
        CHECK.same("a new object", x.largest(), 0);
        x.joint(1, 2);
        CHECK.same("a joint alone", x.largest(), 0);
        x.signal(1, true);
        CHECK.same("a route", x.largest(), 1);
        x.signal(1, false);
        CHECK.same("none again", x.largest(), 0);
    }

    private static void largestOfOneAndOfAll() {
        CHECK.under("Promise 16: The greatest number of routes of which no two conflict (of one, and of all)");
        CHECK.same("one of one", Yards.line().largest(), 1);
        CHECK.same("one of two", Yards.fork().largest(), 1);
        CHECK.same("three of three", Yards.chain().largest(), 3);
        CHECK.same("ten of ten, which fill all sections", Yards.pairs().largest(), 10);
    }

    /** In the ring section 9 is entered by route 0 alone, and section 8 by route 15 alone. */
    private static void largestOfSixteen() {
        CHECK.under("Promise 16: The greatest number of routes of which no two conflict (of sixteen)");
        RouteInterlocking x = Yards.ring(20);
        CHECK.same("ten of sixteen, the first and the last among them", x.largest(), 10);
        CHECK.same("two of sixteen", Yards.with(Yards.mesh(), 1, 3).largest(), 2);
        for (int r = 0; r < 16; r++) {
            x.set(r);
        }
        CHECK.same("what is set is no matter", x.largest(), 10);
    }

    private static void hopsOfOneRoute() {
        CHECK.under("Promise 17: The smallest number of routes, one after the other (one)");
        for (int n = 1; n <= 5; n++) {
            RouteInterlocking x = Yards.with(Yards.lineOf(n), 1);
            CHECK.same("a route of " + n, x.hops(1, n), 1);
        }
        RouteInterlocking ring = Yards.ring(20);
        CHECK.same("by the first route", ring.hops(0, 9), 1);
        CHECK.same("by the last route", ring.hops(15, 8), 1);
    }

    /**
     * A line of sections 0 to 6, at whose end section 7 is a loop: the way goes up the line, round the loop, down again
     * and out by end 0 over section 8 to section 9. It takes each of the sixteen routes.
     */
    private static void hopsOfSixteenRoutes() {
        CHECK.under("Promise 17: The smallest number of routes, one after the other (all sixteen)");
        int[] joints = {1, 2, 3, 4, 5, 6, 7, 8, 9, 10, 11, 12, 13, 14, 15, 13, 0, 16, 17, 18};
        RouteInterlocking x = Yards.with(joints, 0, 1, 2, 3, 4, 5, 6, 7, 8, 9, 10, 11, 12, 13, 15, 17);
        CHECK.same("routes", x.routes(), 16);
        CHECK.same("up the line", x.hops(1, 6), 6);
        CHECK.same("into the loop", x.hops(1, 7), 7);
        CHECK.same("to section 8", x.hops(1, 8), 15);
        CHECK.same("to section 9", x.hops(1, 9), 16);
        CHECK.same("down the line alone", x.hops(12, 9), 8);
    }

    private static void hopsSmallestNumber() {
        CHECK.under("Promise 17: The smallest number of routes");
        // Section 4 is four routes away along the line, and two over section 9.
        RouteInterlocking x = Yards.with(new int[] {1, 2, 3, 4, 5, 6, 7, 8, 1, 18, 19, 8}, 1, 3, 5, 7, 19);
        CHECK.same("of two ways", x.hops(1, 4), 2);
        CHECK.same("the longer one is for the others", x.hops(1, 3), 3);
        x.signal(19, false);
        CHECK.same("one route goes through", x.hops(1, 4), 1);
        // Six routes of one joint up to section 7, and one that goes on over sections 8 and 9.
        CHECK.same("round the ring", Yards.ring(16).hops(3, 0), 7);
    }

    private static void hopsToTheLastSectionOnly() {
        CHECK.under("Promise 17: to a section, as the last one that the last route enters");
        RouteInterlocking x = Yards.with(Yards.lineOf(5), 1);
        for (int s = 1; s < 5; s++) {
            CHECK.same("only passed, hops(1, " + s + ")", x.hops(1, s), NONE);
        }
        CHECK.same("the last one", x.hops(1, 5), 1);
    }

    private static void hopsFromTheOppositeEndOnly() {
        CHECK.under("Promise 17: each other one begins at the opposite end of that by which the one before comes into its last section");
        RouteInterlocking x = Yards.facing();
        CHECK.same("into section 1", x.hops(1, 1), 1);
        CHECK.same("a route from the end by which it came in is no help", x.hops(1, 2), NONE);
        CHECK.same("nor is the other signal of the own section", Yards.with(new int[] {1, 2}, 0, 1).hops(0, 1), NONE);
    }

    private static void hopsToTheOwnSection() {
        CHECK.under("Promise 17: 0 if it is the end's section");
        RouteInterlocking x = new RouteInterlocking();
        RouteInterlocking ring = Yards.ring(20);
        for (int a = 0; a < 20; a++) {
            CHECK.same("without a signal, hops(" + a + ", its own)", x.hops(a, a / 2), 0);
            CHECK.same("with a signal and routes, hops(" + a + ", its own)", ring.hops(a, a / 2), 0);
        }
    }

    private static void hopsOutside() {
        CHECK.under("Promise 17: BAD for a outside 0..19 or s outside 0..9");
        RouteInterlocking x = Yards.ring(20);
        for (int a : Outside.of(20)) {
            CHECK.same("hops(" + a + ", 0)", x.hops(a, 0), BAD);
            CHECK.same("hops(" + a + ", 9)", x.hops(a, 9), BAD);
        }
        for (int s : Outside.of(10)) {
            CHECK.same("hops(0, " + s + ")", x.hops(0, s), BAD);
            CHECK.same("hops(15, " + s + ")", x.hops(15, s), BAD);
        }
    }

    private static void hopsNone() {
        CHECK.under("Promise 17: NONE if there is no such way");
        RouteInterlocking x = new RouteInterlocking();
        CHECK.same("no routes", x.hops(0, 9), NONE);
        CHECK.same("no routes", x.hops(19, 0), NONE);
        RouteInterlocking chain = Yards.chain();
        CHECK.same("no signal at the end", chain.hops(0, 1), NONE);
        CHECK.same("backwards", chain.hops(5, 0), NONE);
        CHECK.same("a section apart", chain.hops(1, 9), NONE);
        RouteInterlocking round = Yards.with(new int[] {1, 2, 3, 4, 5, 0}, 1, 3, 5);
        CHECK.same("round and round", round.hops(1, 9), NONE);
    }

    private static void badBeforeNoneInVia() {
        CHECK.under("Promise 18: via: BAD is tested first, before NONE");
        RouteInterlocking x = Yards.line();
        for (int r : Outside.of(1)) {
            CHECK.same("via(" + r + ", -1)", x.via(r, -1), BAD);
            CHECK.same("via(" + r + ", 3)", x.via(r, 3), BAD);
            CHECK.same("via(" + r + ", 5)", x.via(r, 5), BAD);
        }
        CHECK.same("via(0, 3) has a route", x.via(0, 3), NONE);
    }

    private static void badBeforeNoneInPositionLockAndTrain() {
        CHECK.under("Promise 18: position, lock, train: BAD is tested first, before NONE");
        RouteInterlocking x = new RouteInterlocking();
        for (int a : Outside.of(20)) {
            CHECK.same("position(" + a + ")", x.position(a), BAD);
        }
        for (int s : Outside.of(10)) {
            CHECK.same("lock(" + s + ")", x.lock(s), BAD);
        }
        for (int t : Outside.of(3)) {
            CHECK.same("train(" + t + ")", x.train(t), BAD);
        }
        CHECK.same("position(19)", x.position(19), NONE);
        CHECK.same("lock(9)", x.lock(9), NONE);
        CHECK.same("train(2)", x.train(2), NONE);
    }

    private static void badBeforeNoneAndZeroInHops() {
        CHECK.under("Promise 18: hops: BAD is tested first, before NONE and before the 0 of hops");
        RouteInterlocking x = new RouteInterlocking();
        int[][] own = {{20, 10}, {21, 10}, {-1, 0}, {-2, -1}, {-1, -1}, {22, 11}, {Integer.MIN_VALUE, Integer.MIN_VALUE / 2},
            {Integer.MAX_VALUE, Integer.MAX_VALUE / 2}, {-3, -1}};
        for (int[] pair : own) {
            CHECK.same("hops(" + pair[0] + ", " + pair[1] + ")", x.hops(pair[0], pair[1]), BAD);
        }
        CHECK.same("where there is no way either, hops(20, 3)", x.hops(20, 3), BAD);
        CHECK.same("where there is no way either, hops(3, 10)", x.hops(3, 10), BAD);
        CHECK.same("hops(19, 9)", x.hops(19, 9), 0);
        CHECK.same("hops(0, 9)", x.hops(0, 9), NONE);
    }

    /** Three calls to make the yard, and 101 rounds of five, and four more. */
    private static void fiveHundredAndTwelveCalls() {
        CHECK.under("An object is used for at most 512 calls after it has been made");
        RouteInterlocking x = Yards.with(new int[] {1, 2, 3, 4}, 1);
        for (int round = 0; round < 101; round++) {
            CHECK.yes("put", x.put(round % 3, 1));
            CHECK.yes("set", x.set(0));
            CHECK.same("tick", x.tick(20), 2);
            CHECK.same("train", x.train(round % 3), 5);
            CHECK.yes("turn", x.turn(round % 3, 0));
        }
        CHECK.same("call 509", x.routes(), 1);
        CHECK.yes("call 510", x.set(0));
        CHECK.yes("call 511", x.cancel(0));
        CHECK.same("call 512", x.blocked(0), 0);
    }
}
