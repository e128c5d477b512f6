/** Promises 15, 16, 17 and 18: conflict, largest, hops, and the order of the refusals. */
public final class GraphTest {
    private static final Check CHECK = new Check("GraphTest");
    private static final int[] OUTSIDE = {-1, 20, 32, Integer.MIN_VALUE, Integer.MAX_VALUE};

    public static void main(String[] args) {
        conflictAnswers();
        conflictByAPointAlone();
        conflictDoesNotAskWhatIsSet();
        conflictRefusals();
        largestAnswers();
        hopsAnswers();
        hopsTakesTheFewest();
        hopsNeedsTheRightEnd();
        badComesFirst();
        CHECK.end();
    }

    private static void conflictAnswers() {
        RouteInterlocking x = Yards.chain();
        for (int r = 0; r < 3; r++) {
            for (int q = 0; q < 3; q++) {
                CHECK.same("conflict(" + r + ", " + q + ")", x.conflict(r, q) ? 1 : 0, r == q ? 1 : 0);
            }
        }
        RouteInterlocking merge = Yards.merge();
        CHECK.yes("sections in common", merge.conflict(0, 1));
        CHECK.yes("sections in common", merge.conflict(1, 0));
        RouteInterlocking ends = Yards.with(new int[] {1, 2, 5, 3}, 1, 5, 2, 3);
        CHECK.same("routes from 1, 2, 3 and 5", ends.routes(), 4);
        CHECK.yes("one section entered by both ends", ends.conflict(0, 3));
        CHECK.no("the signal's section is not entered", ends.conflict(0, 1));
        CHECK.no("nor is this one", ends.conflict(1, 2));
    }

    private static void conflictByAPointAlone() {
        RouteInterlocking fork = Yards.fork();
        CHECK.yes("different positions of point 1", fork.conflict(0, 1));
        CHECK.yes("different positions of point 1", fork.conflict(1, 0));
        RouteInterlocking facing = Yards.facing();
        CHECK.no("the same position of point 2", facing.conflict(0, 1));
        CHECK.yes("different positions, into sections 1 and 2", facing.conflict(0, 2));
        CHECK.yes("different positions, into sections 2 and 1", facing.conflict(2, 0));
    }

    private static void conflictDoesNotAskWhatIsSet() {
        RouteInterlocking x = Yards.pairs();
        x.set(0);
        CHECK.no("not by being set", x.conflict(0, 2));
        x.put(0, 6);
        CHECK.no("not by a train", x.conflict(0, 2));
        CHECK.same("nor is largest", x.largest(), 10);
    }

    private static void conflictRefusals() {
        RouteInterlocking x = Yards.fork();
        for (int r : OUTSIDE) {
            CHECK.no("conflict(" + r + ", 0)", x.conflict(r, 0));
            CHECK.no("conflict(0, " + r + ")", x.conflict(0, r));
            CHECK.no("conflict(" + r + ", " + r + ")", x.conflict(r, r));
        }
        CHECK.no("one after the last", x.conflict(2, 2));
        CHECK.no("one after the last", x.conflict(0, 2));
    }

    private static void largestAnswers() {
        CHECK.same("no routes", new RouteInterlocking().largest(), 0);
        CHECK.same("one route", Yards.line().largest(), 1);
        CHECK.same("a chain", Yards.chain().largest(), 3);
        CHECK.same("a fork", Yards.fork().largest(), 1);
        CHECK.same("a merge", Yards.merge().largest(), 1);
        CHECK.same("of three routes only 0 and 1 go together", Yards.facing().largest(), 2);
        CHECK.same("all of ten", Yards.pairs().largest(), 10);
        // The first route conflicts with the two others, which go together.
        RouteInterlocking x = Yards.with(new int[] {1, 2, 3, 4, 13, 3, 17, 4}, 1, 17);
        CHECK.same("three routes", x.routes(), 3);
        CHECK.yes("conflict(0, 1)", x.conflict(0, 1));
        CHECK.yes("conflict(0, 2)", x.conflict(0, 2));
        CHECK.no("conflict(1, 2)", x.conflict(1, 2));
        CHECK.same("the two others", x.largest(), 2);
        RouteInterlocking wide = Yards.with(Yards.mesh(), 1, 3);
        CHECK.same("sixteen routes, two side by side", wide.largest(), 2);
    }

    private static void hopsAnswers() {
        RouteInterlocking x = Yards.chain();
        for (int s = 0; s < 4; s++) {
            CHECK.same("hops(1, " + s + ")", x.hops(1, s), s);
        }
        CHECK.same("not backwards", x.hops(3, 0), RouteInterlocking.NONE);
        CHECK.same("not from an end without a signal", x.hops(0, 1), RouteInterlocking.NONE);
        CHECK.same("the end's own section", x.hops(0, 0), 0);
        CHECK.same("also without a signal", x.hops(19, 9), 0);
        CHECK.same("not to a section that has no joint", x.hops(1, 9), RouteInterlocking.NONE);
        RouteInterlocking line = Yards.line();
        CHECK.same("only the last section counts", line.hops(1, 1), RouteInterlocking.NONE);
        CHECK.same("only the last section counts", line.hops(1, 2), RouteInterlocking.NONE);
        CHECK.same("by one route", line.hops(1, 3), 1);
        line.put(0, 6);
        CHECK.same("trains do not matter", line.hops(1, 3), 1);
        RouteInterlocking all = Yards.with(Yards.lineOf(9), 1, 3, 5, 7, 9, 11, 13, 15, 17);
        CHECK.same("nine routes", all.hops(1, 9), 9);
        CHECK.same("eight routes", all.hops(3, 9), 8);
    }

    /** Section 4 is reached by three routes along the line, and by two over section 7. */
    private static void hopsTakesTheFewest() {
        RouteInterlocking x = Yards.with(new int[] {1, 2, 3, 4, 5, 8, 1, 14, 15, 8}, 1, 3, 5, 15);
        CHECK.same("the shorter way", x.hops(1, 4), 2);
        x.signal(15, false);
        CHECK.same("shorter still", x.hops(1, 4), 1);
        x.signal(15, true);
        CHECK.same("the other sections", x.hops(1, 2), 2);
        RouteInterlocking ring = Yards.with(new int[] {1, 2, 3, 4, 5, 0}, 1, 3, 5);
        CHECK.same("round a ring", ring.hops(3, 0), 2);
        CHECK.same("its own section needs no route", ring.hops(3, 1), 0);
        CHECK.same("no way out of the ring", ring.hops(3, 7), RouteInterlocking.NONE);
    }

    /** The next route must begin at the opposite end of that by which the one before comes in. */
    private static void hopsNeedsTheRightEnd() {
        RouteInterlocking x = Yards.with(new int[] {1, 2, 2, 4}, 1, 2);
        CHECK.same("into section 1", x.hops(1, 1), 1);
        CHECK.same("no turning in section 1", x.hops(1, 2), RouteInterlocking.NONE);
        CHECK.same("from its end 2", x.hops(2, 2), 1);
    }

    private static void badComesFirst() {
        RouteInterlocking x = Yards.fork();
        for (int a : OUTSIDE) {
            CHECK.same("hops(" + a + ", 0)", x.hops(a, 0), RouteInterlocking.BAD);
            CHECK.same("hops(0, " + a + ")", x.hops(0, a), RouteInterlocking.BAD);
            CHECK.same("hops(" + a + ", " + a + ")", x.hops(a, a), RouteInterlocking.BAD);
        }
        CHECK.same("hops(20, 10)", x.hops(20, 10), RouteInterlocking.BAD);
        CHECK.same("hops(0, 10)", x.hops(0, 10), RouteInterlocking.BAD);
        CHECK.same("via(2, 9)", x.via(2, 9), RouteInterlocking.BAD);
        CHECK.same("position(20)", x.position(20), RouteInterlocking.BAD);
        CHECK.same("lock(10)", x.lock(10), RouteInterlocking.BAD);
        CHECK.same("train(3)", x.train(3), RouteInterlocking.BAD);
    }
}
