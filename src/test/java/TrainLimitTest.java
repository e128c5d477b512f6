/** Promises 4, 5, 8 and 13: a test of its own for each boundary case that a sentence of them names. */
public final class TrainLimitTest {
    private static final Check CHECK = new Check("TrainLimitTest");
    private static final int NONE = RouteInterlocking.NONE;
    private static final int BAD = RouteInterlocking.BAD;
    private static final long MOST_MILLIS = 60_000;

    public static void main(String[] args) throws InterruptedException {
        putNoSuchTrain();
        putOneThatIsNotAbsent();
        putOutside();
        putInAnOccupiedSection();
        putInALockedSection();
        putElseTrue();
        turnNoSuchTrain();
        turnOneThatIsAbsent();
        turnOneUnderWay();
        turnToNothingKnown();
        turnGoesAway();
        turnHeadsForTheOpposite();
        tickOfNoneOrLess();
        tickOfOneToTwenty();
        tickOfMoreThanTwenty();
        tickEndsSoonForAnyNumber();
        tickCountsTheMoves();
        trainOutside();
        trainAbsent();
        trainWhereItIs();
        trainUnderWayOnTheFirstAndTheLastRoute();
        CHECK.end();
    }

    private static void putNoSuchTrain() {
        CHECK.under("Promise 4: t outside 0..2: refused, answers false");
        RouteInterlocking x = new RouteInterlocking();
        for (int t : Outside.of(3)) {
            CHECK.no("put(" + t + ", 0)", x.put(t, 0));
            CHECK.no("put(" + t + ", 19)", x.put(t, 19));
        }
        for (int s = 0; s < 10; s++) {
            CHECK.yes("no section is occupied", x.put(0, 2 * s));
            x.turn(0, 0);
        }
    }

    private static void putOneThatIsNotAbsent() {
        CHECK.under("Promise 4: t not absent: refused, answers false");
        for (int t = 0; t < 3; t++) {
            RouteInterlocking x = Yards.line();
            x.put(t, 1);
            CHECK.no("in another section", x.put(t, 8));
            CHECK.no("in its own section", x.put(t, 0));
            CHECK.no("where it is", x.put(t, 1));
            x.set(0);
            x.tick(1);
            CHECK.no("under way", x.put(t, 8));
            CHECK.same("it stays on its way", x.train(t), 103);
            x.tick(2);
            CHECK.no("when it has come", x.put(t, 8));
            x.turn(t, 0);
            CHECK.yes("when it has gone", x.put(t, 8));
        }
    }

    private static void putOutside() {
        CHECK.under("Promise 4: a outside 0..19: refused, answers false");
        RouteInterlocking x = new RouteInterlocking();
        for (int a : Outside.of(20)) {
            for (int t = 0; t < 3; t++) {
                CHECK.no("put(" + t + ", " + a + ")", x.put(t, a));
                CHECK.same("train(" + t + ")", x.train(t), NONE);
            }
        }
        CHECK.yes("the first one inside", x.put(0, 0));
        CHECK.yes("the last one inside", x.put(1, 19));
    }

    private static void putInAnOccupiedSection() {
        CHECK.under("Promise 4: the section is occupied: refused, answers false");
        for (int a = 0; a < 20; a++) {
            RouteInterlocking x = new RouteInterlocking();
            x.put(1, a);
            CHECK.no("put(0, " + a + ")", x.put(0, a));
            CHECK.no("put(2, " + a + ")", x.put(2, a));
            CHECK.no("heading the other way", x.put(0, a ^ 1));
            CHECK.yes("the section before or after it", x.put(0, (a + 2) % 20));
            CHECK.yes("the section after or before it", x.put(2, (a + 18) % 20));
        }
    }

    private static void putInALockedSection() {
        CHECK.under("Promise 4: the section is locked: refused, answers false");
        RouteInterlocking x = Yards.with(Yards.lineOf(5), 1);
        x.set(0);
        for (int a = 0; a < 20; a++) {
            boolean locked = 2 <= a && a <= 11;
            CHECK.same("put(2, " + a + ")", x.put(2, a) ? 1 : 0, locked ? 0 : 1);
            x.turn(2, 0);
        }
        x.cancel(0);
        for (int a = 2; a <= 11; a++) {
            CHECK.yes("when it is released, put(2, " + a + ")", x.put(2, a));
            x.turn(2, 0);
        }
        RouteInterlocking ring = Yards.ring(20);
        CHECK.yes("the first route", ring.set(0));
        CHECK.yes("the last route", ring.set(15));
        CHECK.no("locked by route 0", ring.put(0, 19));
        CHECK.no("locked by route 15", ring.put(0, 16));
    }

    private static void putElseTrue() {
        CHECK.under("Promise 4: Else true");
        for (int t = 0; t < 3; t++) {
            RouteInterlocking x = new RouteInterlocking();
            for (int a = 0; a < 20; a++) {
                CHECK.yes("put(" + t + ", " + a + ")", x.put(t, a));
                CHECK.same("train(" + t + ")", x.train(t), a);
                x.turn(t, 0);
            }
        }
    }

    private static void turnNoSuchTrain() {
        CHECK.under("Promise 5: t outside 0..2: refused, answers false");
        RouteInterlocking x = threeTrains();
        for (int t : Outside.of(3)) {
            CHECK.no("turn(" + t + ", 0)", x.turn(t, 0));
            CHECK.no("turn(" + t + ", 1)", x.turn(t, 1));
        }
        for (int t = 0; t < 3; t++) {
            CHECK.same("train(" + t + ")", x.train(t), 4 * t);
        }
    }

    private static RouteInterlocking threeTrains() {
        RouteInterlocking x = new RouteInterlocking();
        for (int t = 0; t < 3; t++) {
            x.put(t, 4 * t);
        }
        return x;
    }

    private static void turnOneThatIsAbsent() {
        CHECK.under("Promise 5: t absent: refused, answers false");
        for (int t = 0; t < 3; t++) {
            RouteInterlocking x = threeTrains();
            x.turn(t, 0);
            CHECK.no("turn(" + t + ", 0)", x.turn(t, 0));
            CHECK.no("turn(" + t + ", 1)", x.turn(t, 1));
            CHECK.same("train(" + t + ")", x.train(t), NONE);
        }
    }

    private static void turnOneUnderWay() {
        CHECK.under("Promise 5: t under way: refused, answers false");
        for (int t = 0; t < 3; t++) {
            RouteInterlocking x = Yards.line();
            x.put(t, 1);
            x.set(0);
            CHECK.yes("a set route alone is no matter", x.turn(t, 1));
            CHECK.yes("a set route alone is no matter", x.turn(t, 1));
            for (int n = 1; n <= 2; n++) {
                x.tick(1);
                CHECK.no("turn(" + t + ", 0) after " + n, x.turn(t, 0));
                CHECK.no("turn(" + t + ", 1) after " + n, x.turn(t, 1));
                CHECK.same("train(" + t + ")", x.train(t), 101 + 2 * n);
            }
            x.tick(1);
            CHECK.yes("when it has come", x.turn(t, 1));
            CHECK.yes("when it has come", x.turn(t, 0));
        }
    }

    private static void turnToNothingKnown() {
        CHECK.under("Promise 5: what outside 0..1: refused, answers false");
        RouteInterlocking x = threeTrains();
        for (int what : Outside.of(2)) {
            for (int t = 0; t < 3; t++) {
                CHECK.no("turn(" + t + ", " + what + ")", x.turn(t, what));
                CHECK.same("train(" + t + ")", x.train(t), 4 * t);
            }
        }
    }

    private static void turnGoesAway() {
        CHECK.under("Promise 5: A train goes away (what = 0)");
        for (int t = 0; t < 3; t++) {
            RouteInterlocking x = threeTrains();
            CHECK.yes("turn(" + t + ", 0)", x.turn(t, 0));
            for (int other = 0; other < 3; other++) {
                CHECK.same("train(" + other + ")", x.train(other), other == t ? NONE : 4 * other);
            }
            CHECK.yes("its section is free", x.put(t, 4 * t + 1));
        }
    }

    private static void turnHeadsForTheOpposite() {
        CHECK.under("Promise 5: or heads for the opposite end (what = 1)");
        for (int a = 0; a < 20; a++) {
            RouteInterlocking x = new RouteInterlocking();
            x.put(2, a);
            CHECK.yes("turn(2, 1)", x.turn(2, 1));
            CHECK.same("from " + a, x.train(2), a % 2 == 0 ? a + 1 : a - 1);
            CHECK.yes("turn(2, 1)", x.turn(2, 1));
            CHECK.same("and back to " + a, x.train(2), a);
        }
    }

    /** Nine routes of one joint, all set, and a train at the first: the most moves that any call can make. */
    private static RouteInterlocking longRun() {
        RouteInterlocking x = Yards.with(Yards.lineOf(9), 1, 3, 5, 7, 9, 11, 13, 15, 17);
        for (int r = 0; r < 9; r++) {
            x.set(r);
        }
        x.put(0, 1);
        return x;
    }

    private static void tickOfNoneOrLess() {
        CHECK.under("Promise 8: n clamped into 0..20 (0 and below)");
        int[] none = {0, -1, -2, -20, -21, -256, Integer.MIN_VALUE, Integer.MIN_VALUE + 1};
        for (int n : none) {
            RouteInterlocking x = longRun();
            CHECK.same("tick(" + n + ")", x.tick(n), 0);
            CHECK.same("nothing has moved", x.train(0), 1);
            RouteInterlocking y = Yards.fork();
            y.put(0, 1);
            y.set(0);
            y.cancel(0);
            y.tick(2);
            y.tick(n);
            CHECK.same("no tick less to wait", y.lock(1), 0);
            y.tick(1);
            CHECK.same("but one is left", y.lock(1), NONE);
        }
    }

    private static void tickOfOneToTwenty() {
        CHECK.under("Promise 8: n ticks");
        for (int n = 1; n <= 20; n++) {
            RouteInterlocking x = longRun();
            int moves = n < 9 ? n : 9;
            CHECK.same("tick(" + n + ")", x.tick(n), moves);
            CHECK.same("where it is", x.train(0), 2 * moves + 1);
            CHECK.same("the rest", x.tick(20), 9 - moves);
        }
    }

    /** No run has more than nine moves left, so what is beyond twenty can only be seen by what tick answers. */
    private static void tickOfMoreThanTwenty() {
        CHECK.under("Promise 8: n clamped into 0..20 (20 and above)");
        int[] many = {20, 21, 22, 32, 64, 100, 256, 65536};
        for (int n : many) {
            RouteInterlocking x = longRun();
            CHECK.same("tick(" + n + ")", x.tick(n), 9);
            CHECK.same("at the end of the line", x.train(0), 19);
            RouteInterlocking y = Yards.fork();
            y.put(0, 1);
            y.set(0);
            y.cancel(0);
            CHECK.same("tick(" + n + ") while it is cancelled", y.tick(n), 0);
            CHECK.same("enough for three", y.lock(1), NONE);
        }
    }

    /** Two thousand million ticks a call, 200 times, would take hours. */
    private static void tickEndsSoonForAnyNumber() throws InterruptedException {
        CHECK.under("Promise 8: n clamped into 0..20 (the greatest numbers)");
        int[] moves = new int[1];
        Thread calls = new Thread(() -> {
            RouteInterlocking x = longRun();
            for (int i = 0; i < 200; i++) {
                moves[0] += x.tick(Integer.MAX_VALUE - i);
            }
        });
        calls.setDaemon(true);
        calls.start();
        calls.join(MOST_MILLIS);
        CHECK.no("still busy after a minute", calls.isAlive());
        CHECK.same("moves in all", moves[0], 9);
    }

    private static void tickCountsTheMoves() {
        CHECK.under("Promise 8: Answers how many moves were made");
        CHECK.same("no train", Yards.line().tick(20), 0);
        RouteInterlocking idle = threeTrains();
        CHECK.same("no route", idle.tick(20), 0);
        RouteInterlocking x = Yards.with(new int[] {1, 2, 3, 4, 5, 6, 9, 10, 11, 12, 15, 16}, 1, 9, 15);
        int[] ends = {1, 9, 15};
        for (int t = 0; t < 3; t++) {
            x.put(t, ends[t]);
            x.set(t);
        }
        CHECK.same("three trains", x.tick(1), 3);
        CHECK.same("one has come", x.tick(1), 2);
        CHECK.same("one is left", x.tick(1), 1);
        CHECK.same("all have come", x.tick(1), 0);
    }

    private static void trainOutside() {
        CHECK.under("Promise 13: BAD for t outside 0..2");
        RouteInterlocking x = threeTrains();
        RouteInterlocking empty = new RouteInterlocking();
        for (int t : Outside.of(3)) {
            CHECK.same("train(" + t + ")", x.train(t), BAD);
            CHECK.same("train(" + t + ") where there is none", empty.train(t), BAD);
        }
    }

    private static void trainAbsent() {
        CHECK.under("Promise 13: NONE if it is absent");
        RouteInterlocking x = new RouteInterlocking();
        for (int t = 0; t < 3; t++) {
            CHECK.same("at first", x.train(t), NONE);
            x.put(t, 0);
            x.turn(t, 0);
            CHECK.same("when it has gone", x.train(t), NONE);
        }
    }

    private static void trainWhereItIs() {
        CHECK.under("Promise 13: Where a train is: the end that it heads for");
        for (int a = 0; a < 20; a++) {
            RouteInterlocking x = new RouteInterlocking();
            x.put(a % 3, a);
            CHECK.same("at " + a, x.train(a % 3), a);
        }
    }

    private static void trainUnderWayOnTheFirstAndTheLastRoute() {
        CHECK.under("Promise 13: plus 100 times 1 more than the route's number if it is under way");
        RouteInterlocking x = Yards.with(new int[] {3, 1, 0, 4}, 3);
        x.put(0, 3);
        x.set(0);
        x.tick(1);
        CHECK.same("to end 0 on route 0", x.train(0), 100);
        x.tick(1);
        CHECK.same("not under way any more", x.train(0), 5);
        // Without signals at 17 and 19 the way from 15 goes on over section 8 to section 9 and 0.
        RouteInterlocking ring = Yards.ring(16);
        ring.put(2, 15);
        ring.set(15);
        ring.tick(1);
        CHECK.same("to end 17 on route 15", ring.train(2), 1617);
        ring.tick(1);
        CHECK.same("to end 19 on route 15", ring.train(2), 1619);
        ring.tick(1);
        CHECK.same("it has come to the signal at 1", ring.train(2), 1);
    }
}
