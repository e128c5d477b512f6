/** Promises 4, 5, 8 and 13: put, turn, tick, train. */
public final class TrainTest {
    private static final Check CHECK = new Check("TrainTest");

    public static void main(String[] args) {
        putAnswers();
        putIsRefusedInALockedSection();
        turnAnswers();
        turnIsRefusedUnderWay();
        trainAnswers();
        trainGoesAlongItsRoute();
        trainOnlyStartsFromTheEndItHeadsFor();
        trainMayComeAfterTheRouteIsSet();
        ticksAreClamped();
        trainsMoveInTheirOrder();
        oneTrainForARoute();
        releaseBehindTheTrain();
        needsAreReleasedWithTheSection();
        CHECK.end();
    }

    private static void putAnswers() {
        RouteInterlocking x = new RouteInterlocking();
        int[] noTrain = {-1, 3, Integer.MIN_VALUE, Integer.MAX_VALUE};
        for (int t : noTrain) {
            CHECK.no("put(" + t + ", 0)", x.put(t, 0));
        }
        int[] noEnd = {-1, 20, Integer.MIN_VALUE, Integer.MAX_VALUE};
        for (int a : noEnd) {
            CHECK.no("put(0, " + a + ")", x.put(0, a));
        }
        CHECK.same("a refused train is absent", x.train(0), RouteInterlocking.NONE);
        CHECK.yes("put(0, 0)", x.put(0, 0));
        CHECK.no("it is not absent", x.put(0, 8));
        CHECK.same("it stays", x.train(0), 0);
        CHECK.no("its section is occupied", x.put(1, 0));
        CHECK.no("at both ends", x.put(1, 1));
        CHECK.yes("put(1, 19)", x.put(1, 19));
        CHECK.yes("put(2, 2)", x.put(2, 2));
        x.turn(0, 0);
        CHECK.yes("a train that went away may come again", x.put(0, 1));
    }

    private static void putIsRefusedInALockedSection() {
        RouteInterlocking x = Yards.line();
        x.set(0);
        for (int a = 2; a <= 7; a++) {
            CHECK.no("put in a locked section at " + a, x.put(0, a));
        }
        CHECK.yes("the signal's section is not locked", x.put(0, 0));
        CHECK.yes("nor is one beside", x.put(1, 8));
    }

    private static void turnAnswers() {
        RouteInterlocking x = new RouteInterlocking();
        CHECK.no("absent", x.turn(0, 0));
        CHECK.no("absent", x.turn(0, 1));
        x.put(1, 6);
        int[] noTrain = {-1, 3, Integer.MIN_VALUE, Integer.MAX_VALUE};
        for (int t : noTrain) {
            CHECK.no("turn(" + t + ", 1)", x.turn(t, 1));
        }
        int[] nothing = {-1, 2, Integer.MIN_VALUE, Integer.MAX_VALUE};
        for (int what : nothing) {
            CHECK.no("turn(1, " + what + ")", x.turn(1, what));
        }
        CHECK.same("refused ones change nothing", x.train(1), 6);
        CHECK.yes("heads for the opposite end", x.turn(1, 1));
        CHECK.same("heads for the opposite end", x.train(1), 7);
        CHECK.yes("and back", x.turn(1, 1));
        CHECK.same("and back", x.train(1), 6);
        CHECK.yes("goes away", x.turn(1, 0));
        CHECK.same("goes away", x.train(1), RouteInterlocking.NONE);
        CHECK.no("it is absent now", x.turn(1, 1));
    }

    private static void turnIsRefusedUnderWay() {
        RouteInterlocking x = Yards.line();
        x.put(0, 1);
        x.set(0);
        CHECK.yes("not under way before it moves", x.turn(0, 1));
        CHECK.yes("not under way before it moves", x.turn(0, 1));
        x.tick(1);
        CHECK.no("under way: it can't go away", x.turn(0, 0));
        CHECK.no("under way: it can't turn", x.turn(0, 1));
        CHECK.same("it is where it was", x.train(0), 103);
        x.tick(2);
        CHECK.yes("it has come", x.turn(0, 1));
        CHECK.same("and turned", x.train(0), 6);
    }

    private static void trainAnswers() {
        RouteInterlocking x = Yards.with(new int[] {1, 2, 3, 4, 7, 8, 9, 10}, 1, 7);
        int[] bad = {-1, 3, Integer.MIN_VALUE, Integer.MAX_VALUE};
        for (int t : bad) {
            CHECK.same("train(" + t + ")", x.train(t), RouteInterlocking.BAD);
        }
        CHECK.same("absent", x.train(2), RouteInterlocking.NONE);
        x.put(2, 7);
        CHECK.same("in its section", x.train(2), 7);
        x.set(1);
        CHECK.same("not under way yet", x.train(2), 7);
        x.tick(1);
        CHECK.same("under way on route 1", x.train(2), 209);
        x.tick(1);
        CHECK.same("not under way any more", x.train(2), 11);
    }

    private static void trainGoesAlongItsRoute() {
        RouteInterlocking x = Yards.with(new int[] {1, 3, 2, 5, 4, 6}, 1);
        x.put(0, 1);
        x.set(0);
        CHECK.same("one move", x.tick(1), 1);
        CHECK.same("comes in by end 3, heads for end 2", x.train(0), 102);
        CHECK.same("one move", x.tick(1), 1);
        CHECK.same("comes in by end 5, heads for end 4", x.train(0), 104);
        CHECK.same("one move", x.tick(1), 1);
        CHECK.same("comes in by end 6, heads for end 7", x.train(0), 7);
        CHECK.same("no move more", x.tick(20), 0);
        CHECK.same("the route is not set any more", x.blocked(0), 2);
        CHECK.yes("the section it left is free", x.put(1, 4));
    }

    private static void trainOnlyStartsFromTheEndItHeadsFor() {
        RouteInterlocking x = Yards.line();
        x.put(0, 0);
        x.set(0);
        CHECK.same("heads the wrong way", x.tick(5), 0);
        CHECK.same("stays", x.train(0), 0);
        x.turn(0, 1);
        CHECK.same("heads for the signal", x.tick(5), 3);
        RouteInterlocking y = Yards.line();
        y.put(0, 1);
        CHECK.same("no set route", y.tick(20), 0);
    }

    private static void trainMayComeAfterTheRouteIsSet() {
        RouteInterlocking x = Yards.line();
        x.set(0);
        CHECK.same("no train", x.tick(20), 0);
        CHECK.same("the route stays set", x.blocked(0), 1);
        x.put(1, 1);
        CHECK.same("now it goes", x.tick(20), 3);
    }

    private static void ticksAreClamped() {
        int[] none = {0, -1, Integer.MIN_VALUE};
        for (int n : none) {
            RouteInterlocking x = Yards.line();
            x.put(0, 1);
            x.set(0);
            CHECK.same("tick(" + n + ")", x.tick(n), 0);
            CHECK.same("nothing goes in tick(" + n + ")", x.train(0), 1);
        }
        RouteInterlocking x = Yards.line();
        x.put(0, 1);
        x.set(0);
        CHECK.same("tick(2)", x.tick(2), 2);
        CHECK.same("two moves on", x.train(0), 105);
        CHECK.same("the rest of it", x.tick(Integer.MAX_VALUE), 1);
    }

    /** Trains 0 and 1 follow each other: the one behind moves in the tick in which its route is set, not before. */
    private static void trainsMoveInTheirOrder() {
        RouteInterlocking x = Yards.chain();
        x.put(0, 1);
        x.put(1, 3);
        x.put(2, 5);
        x.set(2);
        CHECK.no("section 2 is occupied", x.set(1));
        CHECK.same("train 2 alone", x.tick(1), 1);
        x.set(1);
        CHECK.same("train 1 alone", x.tick(1), 1);
        x.set(0);
        CHECK.no("section 3 is occupied", x.set(2));
        CHECK.same("train 0 alone", x.tick(3), 1);
        CHECK.same("where they are", x.train(0) * 10000 + x.train(1) * 100 + x.train(2), 3 * 10000 + 5 * 100 + 7);

        RouteInterlocking y = Yards.chain();
        y.set(0);
        y.set(1);
        y.set(2);
        y.put(0, 1);
        CHECK.same("one move in a tick, also where routes follow each other", y.tick(1), 1);
        CHECK.same("it is in section 1", y.train(0), 3);
        CHECK.same("and then goes on by the others", y.tick(20), 2);
        CHECK.same("to the end of the line", y.train(0), 7);

        RouteInterlocking z = Yards.pairs();
        z.put(0, 1);
        z.put(1, 5);
        z.put(2, 9);
        z.set(0);
        z.set(2);
        z.set(4);
        CHECK.same("three trains in one tick", z.tick(1), 3);
    }

    /** Train 1 comes behind train 0, which is under way on the route from the end that both head for. */
    private static void oneTrainForARoute() {
        RouteInterlocking x = Yards.line();
        x.put(0, 1);
        x.set(0);
        x.tick(1);
        CHECK.yes("the signal's section is free", x.put(1, 1));
        CHECK.same("only train 0 goes", x.tick(1), 1);
        CHECK.same("train 1 stays", x.train(1), 1);
        CHECK.same("only train 0 goes", x.tick(5), 1);
        CHECK.same("train 1 stays", x.train(1), 1);
        x.turn(0, 0);
        CHECK.yes("set again", x.set(0));
        CHECK.same("train 1 goes", x.tick(5), 3);
    }

    private static void releaseBehindTheTrain() {
        RouteInterlocking x = Yards.line();
        x.put(0, 1);
        x.set(0);
        int[][] due = {{0, 0, 0}, {-2, 0, 0}, {-2, -2, -2}};
        for (int n = 0; n < 3; n++) {
            x.tick(1);
            for (int s = 1; s <= 3; s++) {
                CHECK.same("lock(" + s + ") after " + (n + 1) + " ticks", x.lock(s), due[n][s - 1]);
            }
            CHECK.same("blocked after " + (n + 1) + " ticks", x.blocked(0), n < 2 ? 1 : 2);
        }
    }

    /**
     * A fork at end 1, whose first branch is long: its need holds until the train has left section 1,
     * then the other branch can be set while the first route is still set.
     */
    private static void needsAreReleasedWithTheSection() {
        RouteInterlocking x = Yards.with(new int[] {1, 2, 1, 8, 3, 4, 5, 6}, 1);
        x.put(0, 1);
        x.set(0);
        CHECK.same("section 0 is occupied", x.blocked(1), 4);
        x.tick(1);
        CHECK.same("section 0 is not, but the need holds", x.blocked(1), 4);
        x.tick(1);
        CHECK.same("the need is released", x.blocked(1), 0);
        CHECK.yes("so it can be set", x.set(1));
        CHECK.same("and moves the point", x.position(1), 1);
        x.put(1, 1);
        CHECK.same("both go", x.tick(1), 2);
        CHECK.same("train 0 has come", x.train(0), 7);
        CHECK.same("train 1 has come", x.train(1), 9);

        RouteInterlocking y = Yards.line();
        y.put(0, 1);
        y.set(0);
        y.tick(2);
        CHECK.yes("a section that is released may be used", y.put(1, 3));
        CHECK.no("one that is not may not", y.put(2, 7));
    }
}
