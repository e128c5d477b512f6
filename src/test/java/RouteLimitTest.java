/** Promises 6, 7, 12 and 14: a test of its own for each boundary case that a sentence of them names. */
public final class RouteLimitTest {
    private static final Check CHECK = new Check("RouteLimitTest");
    private static final int NONE = RouteInterlocking.NONE;
    private static final int BAD = RouteInterlocking.BAD;

    public static void main(String[] args) {
        setNoSuchRoute();
        setOneThatIsSet();
        setIntoAnOccupiedSection();
        setIntoALockedSection();
        setOverAFastPoint();
        setTheFirstAndTheLast();
        cancelNoSuchRoute();
        cancelOneThatIsNotSet();
        cancelOneWithATrainUnderWay();
        cancelOneBeingCancelled();
        cancelAtOnceWithNoTrainAtTheSignal();
        cancelWithATrainAtTheSignal();
        cancelKeepsTrainsFromStarting();
        cancelIsForgottenWhenItIsOver();
        lockOutside();
        lockNone();
        lockByTheFirstAndTheLast();
        blockedNoSuchRoute();
        blockedCanBeSet();
        blockedIsSetComesFirst();
        blockedOccupiedComesBeforeLocked();
        blockedLockedComesBeforeAPoint();
        blockedAPointIsLast();
        CHECK.end();
    }

    private static void setNoSuchRoute() {
        CHECK.under("Promise 6: false if there is none");
        RouteInterlocking empty = new RouteInterlocking();
        RouteInterlocking one = Yards.line();
        RouteInterlocking full = Yards.ring(20);
        CHECK.no("none at all", empty.set(0));
        for (int r : Outside.of(1)) {
            CHECK.no("of one, set(" + r + ")", one.set(r));
        }
        for (int r : Outside.of(16)) {
            CHECK.no("of sixteen, set(" + r + ")", full.set(r));
        }
        for (int s = 0; s < 10; s++) {
            CHECK.same("nothing is locked", full.lock(s), NONE);
        }
    }

    private static void setOneThatIsSet() {
        CHECK.under("Promise 6: or it can't be set (it is set)");
        RouteInterlocking x = Yards.line();
        CHECK.yes("set(0)", x.set(0));
        CHECK.no("at once again", x.set(0));
        x.put(0, 1);
        x.tick(1);
        CHECK.no("while a train is under way on it", x.set(0));
        x.tick(2);
        x.turn(0, 0);
        CHECK.yes("when it is over", x.set(0));
        x.put(0, 1);
        x.cancel(0);
        for (int n = 0; n < 3; n++) {
            CHECK.no("being cancelled, after " + n, x.set(0));
            x.tick(1);
        }
        CHECK.yes("when the cancel is over", x.set(0));
    }

    private static void setIntoAnOccupiedSection() {
        CHECK.under("Promise 6: or it can't be set (a section that it enters is occupied)");
        for (int t = 0; t < 3; t++) {
            for (int s = 0; s < 5; s++) {
                RouteInterlocking x = Yards.line();
                x.put(t, 2 * s + 1);
                boolean entered = 1 <= s && s <= 3;
                CHECK.same("train " + t + " in section " + s, x.set(0) ? 1 : 0, entered ? 0 : 1);
                x.turn(t, 0);
                CHECK.same("when it has gone", x.set(0) ? 1 : 0, entered ? 1 : 0);
            }
        }
    }

    private static void setIntoALockedSection() {
        CHECK.under("Promise 6: or it can't be set (a section that it enters is locked)");
        RouteInterlocking x = Yards.ring(20);
        // Route 1 goes from section 0 to 1, route 4 from section 2 back to 1.
        CHECK.yes("set(1)", x.set(1));
        CHECK.no("set(4)", x.set(4));
        CHECK.yes("cancel(1)", x.cancel(1));
        CHECK.yes("set(4) when it is released", x.set(4));
        CHECK.no("set(1)", x.set(1));
    }

    private static void setOverAFastPoint() {
        CHECK.under("Promise 6: or it can't be set (a point that it needs otherwise is fast)");
        RouteInterlocking x = Yards.fork();
        x.put(0, 0);
        CHECK.no("occupied", x.set(1));
        CHECK.yes("the other way it lies already", x.set(0));
        x.turn(0, 0);
        CHECK.no("needed", x.set(1));
        x.cancel(0);
        CHECK.yes("neither", x.set(1));
        CHECK.no("needed in position 1", x.set(0));
        x.cancel(1);
        x.put(0, 0);
        CHECK.no("occupied in position 1", x.set(0));
        CHECK.yes("position 1 is as it needs", x.set(1));
    }

    private static void setTheFirstAndTheLast() {
        CHECK.under("Promise 6: Sets a route");
        for (int r = 0; r < 16; r++) {
            RouteInterlocking x = Yards.ring(20);
            int section = r % 2 == 0 ? (r / 2 + 9) % 10 : (r / 2 + 1) % 10;
            CHECK.yes("set(" + r + ")", x.set(r));
            for (int s = 0; s < 10; s++) {
                CHECK.same("route " + r + ", lock(" + s + ")", x.lock(s), s == section ? r : NONE);
            }
            CHECK.same("it is set", x.blocked(r), 1);
        }
    }

    private static void cancelNoSuchRoute() {
        CHECK.under("Promise 7: There is none: refused, answers false");
        RouteInterlocking one = Yards.line();
        one.set(0);
        RouteInterlocking full = Yards.ring(20);
        full.set(0);
        full.set(15);
        CHECK.no("none at all", new RouteInterlocking().cancel(0));
        for (int r : Outside.of(1)) {
            CHECK.no("of one, cancel(" + r + ")", one.cancel(r));
        }
        for (int r : Outside.of(16)) {
            CHECK.no("of sixteen, cancel(" + r + ")", full.cancel(r));
        }
        CHECK.same("the one is set", one.blocked(0), 1);
        CHECK.same("the first of sixteen is set", full.blocked(0), 1);
        CHECK.same("the last of sixteen is set", full.blocked(15), 1);
    }

    private static void cancelOneThatIsNotSet() {
        CHECK.under("Promise 7: it is not set: refused, answers false");
        RouteInterlocking x = Yards.line();
        CHECK.no("never set", x.cancel(0));
        x.put(0, 1);
        CHECK.no("with a train at the signal", x.cancel(0));
        x.set(0);
        x.tick(3);
        CHECK.no("over by a train", x.cancel(0));
        x.turn(0, 0);
        x.set(0);
        x.cancel(0);
        CHECK.no("over by a cancel at once", x.cancel(0));
        x.put(0, 1);
        x.set(0);
        x.cancel(0);
        x.tick(3);
        CHECK.no("over by a cancel that waited", x.cancel(0));
        RouteInterlocking y = Yards.chain();
        y.set(1);
        CHECK.no("another one is set", y.cancel(0));
        CHECK.no("another one is set", y.cancel(2));
        CHECK.same("and stays", y.blocked(1), 1);
    }

    private static void cancelOneWithATrainUnderWay() {
        CHECK.under("Promise 7: a train is under way on it: refused, answers false");
        for (int t = 0; t < 3; t++) {
            RouteInterlocking x = Yards.line();
            x.put(t, 1);
            x.set(0);
            for (int n = 1; n <= 2; n++) {
                x.tick(1);
                CHECK.no("train " + t + " after " + n, x.cancel(0));
                CHECK.yes("another train at the signal", x.put((t + 1) % 3, 1));
                CHECK.no("with another train at the signal", x.cancel(0));
                x.turn((t + 1) % 3, 0);
            }
            CHECK.same("it goes on", x.tick(20), 1);
        }
        // A train under way on another route is no matter.
        RouteInterlocking y = Yards.with(new int[] {1, 2, 3, 4, 7, 8}, 1, 7);
        y.put(0, 1);
        y.set(0);
        y.set(1);
        y.tick(1);
        CHECK.yes("the other route", y.cancel(1));
        CHECK.no("the train's route", y.cancel(0));
    }

    private static void cancelOneBeingCancelled() {
        CHECK.under("Promise 7: or it is being cancelled already: refused, answers false");
        RouteInterlocking x = Yards.fork();
        x.put(0, 1);
        x.set(0);
        CHECK.yes("cancel(0)", x.cancel(0));
        for (int n = 0; n < 3; n++) {
            CHECK.no("after " + n + " ticks", x.cancel(0));
            CHECK.same("the refused one gives no new wait", x.lock(1), 0);
            x.tick(1);
        }
        CHECK.same("three ticks, not more", x.lock(1), NONE);
        RouteInterlocking y = Yards.fork();
        y.put(0, 1);
        y.set(0);
        y.cancel(0);
        y.turn(0, 1);
        CHECK.no("with a train that heads the other way now", y.cancel(0));
        y.turn(0, 0);
        CHECK.no("with no train any more", y.cancel(0));
        CHECK.same("it is still set", y.blocked(0), 1);
    }

    private static void cancelAtOnceWithNoTrainAtTheSignal() {
        CHECK.under("Promise 7: if no train heads for its signal's end in that section it is not set any more at once, and its locks and needs are released");
        for (int a = 0; a < 20; a++) {
            RouteInterlocking x = Yards.with(new int[] {11, 12, 11, 14, 13, 16}, 11);
            boolean entered = 12 <= a && a <= 13 || 16 <= a && a <= 17;
            if (a == 11 || entered) {
                continue;
            }
            x.set(0);
            x.put(a % 3, a);
            CHECK.yes("a train at " + a, x.cancel(0));
            CHECK.same("lock(6)", x.lock(6), NONE);
            CHECK.same("lock(8)", x.lock(8), NONE);
            x.turn(a % 3, 0);
            CHECK.same("not set", x.blocked(0), 0);
            CHECK.same("no need holds", x.blocked(1), 0);
        }
    }

    private static void cancelWithATrainAtTheSignal() {
        CHECK.under("Promise 7: else it is being cancelled, with 3 ticks to wait");
        for (int t = 0; t < 3; t++) {
            RouteInterlocking x = Yards.with(new int[] {0, 18, 0, 16}, 0);
            x.put(t, 0);
            x.set(0);
            CHECK.yes("train " + t, x.cancel(0));
            for (int n = 0; n <= 4; n++) {
                CHECK.same("train " + t + ", lock(9) after " + n, x.lock(9), n < 3 ? 0 : NONE);
                CHECK.same("train " + t + ", set after " + n, x.blocked(0), n < 3 ? 1 : 0);
                CHECK.same("it does not move", x.tick(1), 0);
            }
            CHECK.same("it stays", x.train(t), 0);
        }
        for (int n = 2; n <= 4; n++) {
            RouteInterlocking x = Yards.fork();
            x.put(0, 1);
            x.set(0);
            x.cancel(0);
            x.tick(n);
            CHECK.same("in one call, lock(1) after " + n, x.lock(1), n < 3 ? 0 : NONE);
        }
    }

    private static void cancelKeepsTrainsFromStarting() {
        CHECK.under("Terms: if there is a set route, not being cancelled");
        RouteInterlocking x = Yards.fork();
        x.put(0, 1);
        x.set(0);
        x.cancel(0);
        x.turn(0, 0);
        x.put(1, 1);
        CHECK.same("another train at the signal", x.tick(2), 0);
        CHECK.same("also not in the last tick", x.tick(1), 0);
        CHECK.same("nor later", x.tick(20), 0);
    }

    private static void cancelIsForgottenWhenItIsOver() {
        CHECK.under("Promise 7: it is not set any more (so it may be set anew, with nothing of the old cancel)");
        RouteInterlocking x = Yards.line();
        x.put(0, 1);
        x.set(0);
        x.cancel(0);
        x.tick(3);
        CHECK.yes("set anew", x.set(0));
        CHECK.same("its train goes", x.tick(1), 1);
        CHECK.same("and is not stopped", x.tick(20), 2);
        RouteInterlocking y = Yards.line();
        y.put(0, 1);
        y.set(0);
        y.cancel(0);
        y.tick(3);
        y.set(0);
        CHECK.yes("cancelled anew", y.cancel(0));
        y.tick(2);
        CHECK.same("three whole ticks again", y.lock(3), 0);
        y.tick(1);
        CHECK.same("three whole ticks again", y.lock(3), NONE);
    }

    private static void lockOutside() {
        CHECK.under("Promise 12: BAD for s outside 0..9");
        RouteInterlocking x = Yards.ring(20);
        for (int r = 0; r < 16; r++) {
            x.set(r);
        }
        for (int s : Outside.of(10)) {
            CHECK.same("lock(" + s + ")", x.lock(s), BAD);
        }
    }

    private static void lockNone() {
        CHECK.under("Promise 12: NONE if none has");
        RouteInterlocking x = Yards.line();
        for (int s = 0; s < 10; s++) {
            CHECK.same("nothing is set, lock(" + s + ")", x.lock(s), NONE);
        }
        x.put(0, 8);
        CHECK.same("an occupied section is not locked", x.lock(4), NONE);
        x.set(0);
        CHECK.same("nor is the signal's", x.lock(0), NONE);
    }

    private static void lockByTheFirstAndTheLast() {
        CHECK.under("Promise 12: The route that has locked a section");
        RouteInterlocking x = Yards.ring(20);
        x.set(0);
        x.set(15);
        x.set(2);
        CHECK.same("the first route, the last section", x.lock(9), 0);
        CHECK.same("the last route", x.lock(8), 15);
        CHECK.same("the first section", x.lock(0), 2);
        x.cancel(0);
        CHECK.same("released", x.lock(9), NONE);
        CHECK.same("the others stay", x.lock(8), 15);
        CHECK.same("the others stay", x.lock(0), 2);
    }

    private static void blockedNoSuchRoute() {
        CHECK.under("Promise 14: BAD if there is none");
        RouteInterlocking one = Yards.line();
        RouteInterlocking full = Yards.ring(20);
        CHECK.same("none at all", new RouteInterlocking().blocked(0), BAD);
        for (int r : Outside.of(1)) {
            CHECK.same("of one, blocked(" + r + ")", one.blocked(r), BAD);
        }
        for (int r : Outside.of(16)) {
            CHECK.same("of sixteen, blocked(" + r + ")", full.blocked(r), BAD);
        }
    }

    private static void blockedCanBeSet() {
        CHECK.under("Promise 14: 0 if a route can be set");
        RouteInterlocking x = Yards.ring(20);
        for (int r = 0; r < 16; r++) {
            CHECK.same("blocked(" + r + ")", x.blocked(r), 0);
            CHECK.yes("and so it is, " + r, x.set(r));
            x.cancel(r);
        }
    }

    private static void blockedIsSetComesFirst() {
        CHECK.under("Promise 14: 1 it is set (before what its own train and its own locks do)");
        RouteInterlocking x = Yards.line();
        x.set(0);
        CHECK.same("its sections are locked by itself", x.blocked(0), 1);
        x.put(0, 1);
        for (int n = 1; n <= 2; n++) {
            x.tick(1);
            CHECK.same("its train is in section " + n, x.blocked(0), 1);
        }
        x.tick(1);
        CHECK.same("it is over", x.blocked(0), 2);
        RouteInterlocking y = Yards.fork();
        y.put(0, 1);
        y.set(0);
        y.cancel(0);
        CHECK.same("being cancelled", y.blocked(0), 1);
    }

    private static void blockedOccupiedComesBeforeLocked() {
        CHECK.under("Promise 14: 2 a section that it enters is occupied (before 3 and 4)");
        // From section 9 a route comes in at section 2, with the point at end 4 for it.
        RouteInterlocking x = Yards.with(new int[] {1, 2, 3, 4, 5, 6, 18, 4}, 1, 18);
        x.put(0, 2);
        CHECK.same("the first one occupied", x.blocked(0), 2);
        x.set(1);
        CHECK.same("the first one occupied, the others locked, and a point", x.blocked(0), 2);
        x.turn(0, 0);
        CHECK.same("the others locked, and a point", x.blocked(0), 3);
        x.put(0, 18);
        x.tick(1);
        CHECK.same("one occupied and locked, one locked, and a point", x.blocked(0), 2);
        x.tick(1);
        CHECK.same("the last one occupied, nothing locked", x.blocked(0), 2);
        x.turn(0, 0);
        CHECK.same("nothing any more", x.blocked(0), 0);
    }

    private static void blockedLockedComesBeforeAPoint() {
        CHECK.under("Promise 14: 3 one is locked (before 4)");
        // The fork's first point is under a train, and the last section of its second branch is locked from section 9.
        RouteInterlocking x = Yards.with(new int[] {1, 2, 1, 4, 5, 6, 18, 6}, 1, 18);
        x.put(0, 0);
        CHECK.same("a point alone", x.blocked(1), 4);
        x.set(2);
        CHECK.same("a point first, then a lock", x.blocked(1), 3);
        x.cancel(2);
        CHECK.same("a point alone again", x.blocked(1), 4);
    }

    private static void blockedAPointIsLast() {
        CHECK.under("Promise 14: 4 a point");
        RouteInterlocking x = Yards.facing();
        CHECK.yes("set(0)", x.set(0));
        CHECK.same("needed otherwise", x.blocked(2), 4);
        CHECK.same("needed as it lies", x.blocked(1), 0);
        x.cancel(0);
        x.put(0, 3);
        CHECK.same("under a train, otherwise", x.blocked(2), 4);
        CHECK.same("under a train, as it lies", x.blocked(1), 0);
        x.turn(0, 0);
        CHECK.same("not fast", x.blocked(2), 0);
    }
}
