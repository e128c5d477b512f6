/** Promises 6, 7, 12 and 14: set, cancel, lock, blocked. */
public final class SettingTest {
    private static final Check CHECK = new Check("SettingTest");
    private static final int[] NO_ROUTES = {-1, 16, 31, 32, Integer.MIN_VALUE, Integer.MAX_VALUE};

    public static void main(String[] args) {
        setAnswers();
        setGivesPointsTheirPositions();
        setIsRefusedWithoutChange();
        blockedAnswers();
        blockedTellsWhatComesFirst();
        pointInPlaceMayBeFast();
        needsOfTwoRoutesHoldApart();
        lockAnswers();
        laterLockStays();
        cancelAtOnce();
        cancelWithAWait();
        cancelWaitGoesOnWithoutTheTrain();
        cancelIsRefusedUnderWay();
        cancelRefusals();
        CHECK.end();
    }

    private static void setAnswers() {
        RouteInterlocking x = Yards.line();
        for (int r : NO_ROUTES) {
            CHECK.no("set(" + r + ")", x.set(r));
        }
        CHECK.no("one after the last", x.set(1));
        CHECK.yes("set(0)", x.set(0));
        CHECK.no("it is set", x.set(0));
        x.cancel(0);
        CHECK.yes("set again", x.set(0));
    }

    private static void setGivesPointsTheirPositions() {
        RouteInterlocking x = Yards.with(new int[] {1, 2, 1, 4, 3, 6, 5, 6, 7, 8, 7, 10}, 1);
        CHECK.same("four routes", x.routes(), 4);
        CHECK.yes("set(3)", x.set(3));
        CHECK.same("point 1", x.position(1), 1);
        CHECK.same("point 6", x.position(6), 1);
        CHECK.same("point 7", x.position(7), 1);
        x.cancel(3);
        CHECK.same("it stays so", x.position(6), 1);
        CHECK.yes("set(1)", x.set(1));
        CHECK.same("point 1", x.position(1), 0);
        CHECK.same("point 6", x.position(6), 0);
        CHECK.same("point 7", x.position(7), 1);
    }

    private static void setIsRefusedWithoutChange() {
        RouteInterlocking x = Yards.with(new int[] {1, 2, 1, 4, 3, 6, 5, 6, 7, 8, 7, 10}, 1);
        x.put(0, 11);
        CHECK.no("section 5 is occupied", x.set(3));
        CHECK.same("no point moves", x.position(1) + x.position(6) + x.position(7), 0);
        for (int s = 0; s < 10; s++) {
            CHECK.same("no lock at " + s, x.lock(s), RouteInterlocking.NONE);
        }
    }

    private static void blockedAnswers() {
        RouteInterlocking x = Yards.merge();
        for (int r : NO_ROUTES) {
            CHECK.same("blocked(" + r + ")", x.blocked(r), RouteInterlocking.BAD);
        }
        CHECK.same("one after the last", x.blocked(2), RouteInterlocking.BAD);
        CHECK.same("can be set", x.blocked(1), 0);
        x.set(0);
        CHECK.same("it is set", x.blocked(0), 1);
        CHECK.same("a section is locked", x.blocked(1), 3);
        x.cancel(0);
        x.put(0, 8);
        CHECK.same("its last section is occupied", x.blocked(1), 2);
        x.turn(0, 0);
        x.put(0, 4);
        CHECK.same("its first section is occupied", x.blocked(1), 2);
        x.turn(0, 0);
        x.put(0, 2);
        CHECK.same("the signal's own section may be occupied", x.blocked(1), 0);
        RouteInterlocking y = Yards.fork();
        y.put(0, 0);
        CHECK.same("a point in an occupied section", y.blocked(1), 4);
        CHECK.no("so it can't be set", y.set(1));
        y.turn(0, 0);
        y.set(0);
        CHECK.same("a point for which a need holds", y.blocked(1), 4);
        CHECK.no("so it can't be set", y.set(1));
        CHECK.same("the point stays", y.position(1), 0);
        y.cancel(0);
        CHECK.same("the need is released", y.blocked(1), 0);
        RouteInterlocking z = Yards.with(new int[] {2, 1, 4, 1}, 1);
        z.put(0, 0);
        CHECK.same("which end of a joint was named first does not matter", z.blocked(1), 4);
        z.turn(0, 0);
        z.set(0);
        CHECK.same("nor for a need that holds", z.blocked(1), 4);
    }

    /** Two tracks meet at end 4, and a third one at end 6: all three routes go on to section 5. */
    private static void blockedTellsWhatComesFirst() {
        RouteInterlocking x = Yards.with(new int[] {1, 4, 3, 4, 5, 6, 9, 6, 7, 10}, 1, 3, 9);
        CHECK.same("three routes", x.routes(), 3);
        x.put(0, 9);
        x.set(2);
        CHECK.same("a lock comes before a point", x.blocked(0), 3);
        x.tick(1);
        CHECK.same("section 3 occupied, 5 locked", x.blocked(0), 2);
        CHECK.same("it is set, although section 3 is occupied and 5 locked", x.blocked(2), 1);
        x.tick(1);
        CHECK.same("it has come to section 5", x.blocked(2), 2);
        x.turn(0, 0);
        CHECK.same("all is free", x.blocked(2), 0);
        x.put(0, 4);
        x.set(2);
        CHECK.same("the first section occupied, the others locked", x.blocked(0), 2);
        CHECK.no("so it can't be set", x.set(0));

        RouteInterlocking fork = Yards.fork();
        fork.put(0, 1);
        fork.put(1, 4);
        CHECK.same("a section comes before a point", fork.blocked(1), 2);
        fork.turn(1, 0);
        CHECK.same("the point alone", fork.blocked(1), 4);
    }

    /** Routes 0 and 1 of this yard need the same point in the same position, and enter different sections. */
    private static void pointInPlaceMayBeFast() {
        RouteInterlocking x = Yards.facing();
        CHECK.same("three routes", x.routes(), 3);
        x.set(0);
        CHECK.same("the point is fast but in place", x.blocked(1), 0);
        CHECK.same("the point is fast and not in place", x.blocked(2), 4);
        CHECK.yes("set(1)", x.set(1));
        RouteInterlocking y = Yards.fork();
        y.put(0, 1);
        CHECK.yes("the point under the train is in place", y.set(0));
    }

    private static void needsOfTwoRoutesHoldApart() {
        RouteInterlocking x = Yards.facing();
        x.set(0);
        x.set(1);
        x.cancel(0);
        CHECK.same("the need of route 1 still holds", x.blocked(2), 4);
        x.cancel(1);
        CHECK.same("now none holds", x.blocked(2), 0);
        x.set(1);
        x.set(0);
        x.cancel(1);
        CHECK.same("the need of route 0 still holds", x.blocked(2), 4);
    }

    private static void lockAnswers() {
        RouteInterlocking x = Yards.merge();
        int[] bad = {-1, 10, Integer.MIN_VALUE, Integer.MAX_VALUE};
        for (int s : bad) {
            CHECK.same("lock(" + s + ")", x.lock(s), RouteInterlocking.BAD);
        }
        x.set(1);
        int[] due = {-2, -2, 1, 1, 1, -2, -2, -2, -2, -2};
        for (int s = 0; s < 10; s++) {
            CHECK.same("lock(" + s + ")", x.lock(s), due[s]);
        }
        x.cancel(1);
        for (int s = 0; s < 10; s++) {
            CHECK.same("lock(" + s + ") after the cancel", x.lock(s), RouteInterlocking.NONE);
        }
    }

    /**
     * Sections 0 to 4 in a line, and section 8 joined to end 3. The train of route 0 goes along the line; when it has
     * left section 2, route 2 goes from section 8 back over sections 1 and 0, and the end of route 0 leaves it its locks.
     */
    private static void laterLockStays() {
        RouteInterlocking x = Yards.with(new int[] {1, 2, 3, 4, 5, 6, 7, 8, 3, 16}, 1, 16);
        CHECK.same("three routes", x.routes(), 3);
        x.put(0, 1);
        x.set(0);
        x.tick(1);
        CHECK.same("section 1 is occupied", x.blocked(2), 2);
        x.tick(1);
        CHECK.same("section 1 is left, but the joint by which it came into section 2 is still needed", x.blocked(2), 4);
        x.tick(1);
        CHECK.yes("section 2 is left too", x.set(2));
        CHECK.same("the point goes over", x.position(3), 1);
        CHECK.same("lock(1)", x.lock(1), 2);
        CHECK.same("route 0 is set still", x.blocked(0), 1);
        x.tick(1);
        CHECK.same("route 0 is over", x.lock(4), RouteInterlocking.NONE);
        CHECK.same("the lock of route 2 stays at 1", x.lock(1), 2);
        CHECK.same("the lock of route 2 stays at 0", x.lock(0), 2);
        CHECK.no("section 1 is locked", x.put(1, 3));
    }

    private static void cancelAtOnce() {
        RouteInterlocking x = Yards.fork();
        x.set(0);
        CHECK.yes("no train", x.cancel(0));
        CHECK.same("released", x.lock(1), RouteInterlocking.NONE);
        CHECK.same("not set", x.blocked(0), 0);
        x.put(0, 0);
        x.set(0);
        CHECK.yes("a train that heads for the other end", x.cancel(0));
        CHECK.same("released at once", x.lock(1), RouteInterlocking.NONE);
        x.put(1, 9);
        x.set(0);
        CHECK.yes("a train elsewhere", x.cancel(0));
        CHECK.same("released at once", x.lock(1), RouteInterlocking.NONE);
    }

    private static void cancelWithAWait() {
        RouteInterlocking x = Yards.fork();
        x.put(2, 1);
        x.set(0);
        CHECK.yes("cancel(0)", x.cancel(0));
        CHECK.no("it is being cancelled", x.cancel(0));
        CHECK.same("still set", x.blocked(0), 1);
        for (int n = 1; n <= 2; n++) {
            CHECK.same("no move in tick " + n, x.tick(1), 0);
            CHECK.same("locked after tick " + n, x.lock(1), 0);
            CHECK.no("still being cancelled after tick " + n, x.cancel(0));
        }
        CHECK.same("no move in tick 3", x.tick(1), 0);
        CHECK.same("released after tick 3", x.lock(1), RouteInterlocking.NONE);
        CHECK.same("the train stays", x.train(2), 1);
        CHECK.yes("set again", x.set(0));
        CHECK.same("the old cancel is over", x.tick(1), 1);
        x.turn(2, 0);
        CHECK.yes("needs are released too", x.set(1));
        RouteInterlocking y = Yards.fork();
        y.put(0, 1);
        y.set(0);
        y.cancel(0);
        y.tick(0);
        y.tick(-3);
        CHECK.same("no tick, no wait less", y.lock(1), 0);
        CHECK.same("three in one call", y.tick(3), 0);
        CHECK.same("three in one call", y.lock(1), RouteInterlocking.NONE);
    }

    private static void cancelWaitGoesOnWithoutTheTrain() {
        RouteInterlocking x = Yards.fork();
        x.put(0, 1);
        x.set(0);
        x.cancel(0);
        x.turn(0, 0);
        CHECK.no("still being cancelled", x.cancel(0));
        CHECK.same("still locked", x.lock(1), 0);
        x.put(1, 1);
        CHECK.same("another train does not start on it", x.tick(2), 0);
        CHECK.same("still locked", x.lock(1), 0);
        x.tick(1);
        CHECK.same("released", x.lock(1), RouteInterlocking.NONE);
    }

    private static void cancelIsRefusedUnderWay() {
        RouteInterlocking x = Yards.line();
        x.put(0, 1);
        x.set(0);
        x.tick(1);
        CHECK.no("under way", x.cancel(0));
        x.put(1, 1);
        CHECK.no("under way, and another train at the signal", x.cancel(0));
        CHECK.same("it goes on", x.tick(20), 2);
        CHECK.no("not set any more", x.cancel(0));
    }

    private static void cancelRefusals() {
        RouteInterlocking x = Yards.line();
        for (int r : NO_ROUTES) {
            CHECK.no("cancel(" + r + ")", x.cancel(r));
        }
        CHECK.no("one after the last", x.cancel(1));
        CHECK.no("not set", x.cancel(0));
        x.set(0);
        CHECK.yes("set", x.cancel(0));
        CHECK.no("not set any more", x.cancel(0));
    }
}
