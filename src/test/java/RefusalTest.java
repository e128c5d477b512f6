import java.util.ArrayList;
import java.util.List;
import java.util.function.Function;
import java.util.function.Predicate;
import java.util.function.Supplier;

/**
 * Promise 18: a call that is refused changes nothing. For each reason to refuse there are two objects in the same
 * state, one with the refused call and one without it; both are asked all there is, and led on in several ways.
 */
public final class RefusalTest {
    private static final Check CHECK = new Check("RefusalTest");
    private static final int NONE = RouteInterlocking.NONE;
    private static final int BAD = RouteInterlocking.BAD;
    // Each way to look is short of 512 calls, with what was called before it.
    private static final List<Function<RouteInterlocking, List<Integer>>> LOOKS =
        List.of(RefusalTest::answers, RefusalTest::hops, RefusalTest::ticks, RefusalTest::rebuilding);

    public static void main(String[] args) {
        joint();
        signal();
        put();
        turn();
        set();
        cancel();
        questions();
        CHECK.end();
    }

    private static void refused(String what, Supplier<RouteInterlocking> state, Predicate<RouteInterlocking> call) {
        for (Function<RouteInterlocking, List<Integer>> look : LOOKS) {
            RouteInterlocking x = state.get();
            List<Integer> due = look.apply(state.get());
            CHECK.no(what + " is refused", call.test(x));
            List<Integer> got = look.apply(x);
            CHECK.same(what + ": number of answers", got.size(), due.size());
            for (int i = 0; i < due.size() && i < got.size(); i++) {
                CHECK.same(what + ": answer " + i + " after it", got.get(i), due.get(i));
            }
        }
    }

    private static List<Integer> answers(RouteInterlocking x) {
        List<Integer> all = new ArrayList<>(List.of(x.routes(), x.largest()));
        int routes = all.get(0);
        for (int r = 0; r <= routes; r++) {
            for (int i = 0; i < 5; i++) {
                all.add(x.via(r, i));
            }
            all.add(x.blocked(r));
            for (int q = 0; q <= r; q++) {
                all.add(x.conflict(r, q) ? 1 : 0);
            }
        }
        all.addAll(places(x));
        return all;
    }

    private static List<Integer> places(RouteInterlocking x) {
        List<Integer> all = new ArrayList<>();
        for (int a = 0; a < 20; a++) {
            all.add(x.position(a));
        }
        for (int s = 0; s < 10; s++) {
            all.add(x.lock(s));
        }
        for (int t = 0; t < 3; t++) {
            all.add(x.train(t));
        }
        return all;
    }

    private static List<Integer> hops(RouteInterlocking x) {
        List<Integer> all = new ArrayList<>();
        for (int a = 0; a < 20; a++) {
            for (int s = 0; s < 10; s++) {
                all.add(x.hops(a, s));
            }
        }
        return all;
    }

    private static List<Integer> ticks(RouteInterlocking x) {
        List<Integer> all = new ArrayList<>();
        for (int n = 0; n < 7; n++) {
            all.add(x.tick(1));
            all.addAll(places(x));
            for (int r = 0; r < 16; r++) {
                all.add(x.blocked(r));
            }
        }
        return all;
    }

    /** Clears the yard and shows, by what more can be built, which signals and joints are there. */
    private static List<Integer> rebuilding(RouteInterlocking x) {
        List<Integer> all = new ArrayList<>(List.of(x.tick(20)));
        for (int t = 0; t < 3; t++) {
            all.add(x.turn(t, 0) ? 1 : 0);
        }
        for (int r = 0; r < 16; r++) {
            all.add(x.cancel(r) ? 1 : 0);
        }
        for (int a = 0; a < 20; a++) {
            all.add(x.position(a));
            all.add(x.signal(a, false) ? 1 : 0);
        }
        for (int a = 0; a < 20; a++) {
            for (int b = a + 1; b < 20; b++) {
                all.add(x.joint(a, b) ? 1 : 0);
            }
        }
        for (int a = 0; a < 20; a++) {
            all.add(x.signal(a, true) ? 1 : 0);
        }
        for (int r = 0; r < 16; r++) {
            all.add(x.via(r, 0));
        }
        return all;
    }

    /** A point at end 1 that lies in position 1, nothing set, no train; ends 0 and 3 to 19 have room. */
    private static RouteInterlocking thrown() {
        RouteInterlocking x = Yards.fork();
        x.set(1);
        x.cancel(1);
        return x;
    }

    private static RouteInterlocking thrownAndSet() {
        RouteInterlocking x = Yards.fork();
        x.set(1);
        return x;
    }

    private static RouteInterlocking thrownWithATrain() {
        RouteInterlocking x = thrown();
        x.put(1, 8);
        return x;
    }

    /** The mesh with twelve joints, its points as its last route needs them. */
    private static RouteInterlocking thrownMesh() {
        RouteInterlocking x = Yards.with(Yards.mesh(), 1, 3);
        x.set(15);
        x.cancel(15);
        return x;
    }

    private static RouteInterlocking waiting() {
        RouteInterlocking x = Yards.fork();
        x.put(0, 1);
        x.set(0);
        x.cancel(0);
        x.tick(1);
        return x;
    }

    private static RouteInterlocking underWay() {
        RouteInterlocking x = Yards.with(new int[] {1, 2, 1, 18, 3, 4, 5, 6}, 1);
        x.put(0, 1);
        x.set(0);
        x.tick(1);
        return x;
    }

    private static void joint() {
        CHECK.under("Promise 18: a refused joint changes nothing");
        refused("joint with 12", RefusalTest::thrownMesh, x -> x.joint(0, 19));
        for (int n : Outside.of(20)) {
            refused("joint(" + n + ", 8)", RefusalTest::thrown, x -> x.joint(n, 8));
            refused("joint(8, " + n + ")", RefusalTest::thrown, x -> x.joint(8, n));
        }
        refused("joint in a section", RefusalTest::thrown, x -> x.joint(8, 9));
        refused("joint of an end with itself", RefusalTest::thrown, x -> x.joint(8, 8));
        refused("joint at an end with two", RefusalTest::thrown, x -> x.joint(1, 8));
        refused("joint at an end with two, named second", RefusalTest::thrown, x -> x.joint(8, 1));
        Supplier<RouteInterlocking> joined = () -> Yards.with(new int[] {1, 2, 5, 6}, 1, 5);
        refused("joint that is there", joined, x -> x.joint(1, 2));
        refused("joint that is there, turned", joined, x -> x.joint(6, 5));
        refused("joint with a train", RefusalTest::thrownWithATrain, x -> x.joint(10, 12));
        refused("joint with a set route", RefusalTest::thrownAndSet, x -> x.joint(10, 12));
        refused("joint with a route being cancelled", RefusalTest::waiting, x -> x.joint(10, 12));
    }

    private static void signal() {
        CHECK.under("Promise 18: a refused signal changes nothing");
        for (int n : Outside.of(20)) {
            refused("signal(" + n + ", true)", RefusalTest::thrown, x -> x.signal(n, true));
            refused("signal(" + n + ", false)", RefusalTest::thrown, x -> x.signal(n, false));
        }
        refused("a signal that is there", RefusalTest::thrown, x -> x.signal(1, true));
        refused("a signal that is not there", RefusalTest::thrown, x -> x.signal(3, false));
        refused("signal on with a train", RefusalTest::thrownWithATrain, x -> x.signal(2, true));
        refused("signal off with a train", RefusalTest::thrownWithATrain, x -> x.signal(1, false));
        refused("signal on with a set route", RefusalTest::thrownAndSet, x -> x.signal(2, true));
        refused("signal off with a set route", RefusalTest::thrownAndSet, x -> x.signal(1, false));
        refused("signal off with a route being cancelled", RefusalTest::waiting, x -> x.signal(1, false));
    }

    private static void put() {
        CHECK.under("Promise 18: a refused put changes nothing");
        for (int t : Outside.of(3)) {
            refused("put(" + t + ", 8)", RefusalTest::thrown, x -> x.put(t, 8));
        }
        for (int a : Outside.of(20)) {
            refused("put(0, " + a + ")", RefusalTest::thrown, x -> x.put(0, a));
            refused("put(2, " + a + ")", RefusalTest::underWay, x -> x.put(2, a));
        }
        refused("put of a train that is there", RefusalTest::thrownWithATrain, x -> x.put(1, 10));
        refused("put of a train that is there, turned", RefusalTest::thrownWithATrain, x -> x.put(1, 9));
        refused("put of a train under way", RefusalTest::underWay, x -> x.put(0, 10));
        refused("put where a train is", RefusalTest::thrownWithATrain, x -> x.put(0, 8));
        refused("put where a train heads the other way", RefusalTest::thrownWithATrain, x -> x.put(2, 9));
        refused("put in a locked section", RefusalTest::thrownAndSet, x -> x.put(0, 4));
        refused("put before a train under way", RefusalTest::underWay, x -> x.put(1, 6));
    }

    private static void turn() {
        CHECK.under("Promise 18: a refused turn changes nothing");
        for (int t : Outside.of(3)) {
            refused("turn(" + t + ", 0)", RefusalTest::thrownWithATrain, x -> x.turn(t, 0));
            refused("turn(" + t + ", 1)", RefusalTest::thrownWithATrain, x -> x.turn(t, 1));
        }
        for (int what : Outside.of(2)) {
            refused("turn(1, " + what + ")", RefusalTest::thrownWithATrain, x -> x.turn(1, what));
        }
        for (int what = 0; what <= 1; what++) {
            int kind = what;
            refused("turn of a train that is absent", RefusalTest::thrownWithATrain, x -> x.turn(0, kind));
            refused("turn of a train under way", RefusalTest::underWay, x -> x.turn(0, kind));
        }
    }

    private static void set() {
        CHECK.under("Promise 18: a refused set changes nothing");
        for (int r : Outside.of(2)) {
            refused("set(" + r + ")", RefusalTest::thrown, x -> x.set(r));
        }
        for (int r : Outside.of(16)) {
            refused("set(" + r + ") of sixteen", RefusalTest::thrownMesh, x -> x.set(r));
        }
        refused("set of a set route", RefusalTest::thrownAndSet, x -> x.set(1));
        refused("set of a route being cancelled", RefusalTest::waiting, x -> x.set(0));
        refused("set of a route with a train under way", RefusalTest::underWay, x -> x.set(0));
        // All points before the last section would have to go over.
        Supplier<RouteInterlocking> occupied = () -> {
            RouteInterlocking x = thrownMesh();
            x.put(0, 12);
            return x;
        };
        refused("set to an occupied section", occupied, x -> x.set(0));
        Supplier<RouteInterlocking> locked = () -> {
            RouteInterlocking x = thrownMesh();
            x.set(15);
            return x;
        };
        refused("set to a locked section", locked, x -> x.set(7));
        // Route 1 would put the point at end 1 over, but route 3 holds the one at end 6.
        Supplier<RouteInterlocking> fast = () -> {
            RouteInterlocking x = Yards.with(new int[] {1, 2, 1, 4, 5, 6, 6, 18}, 1, 6);
            x.set(3);
            return x;
        };
        refused("set over a point that is needed otherwise", fast, x -> x.set(1));
        Supplier<RouteInterlocking> under = () -> {
            RouteInterlocking x = thrown();
            x.put(0, 0);
            return x;
        };
        refused("set over a point under a train", under, x -> x.set(0));
    }

    private static void cancel() {
        CHECK.under("Promise 18: a refused cancel changes nothing");
        for (int r : Outside.of(2)) {
            refused("cancel(" + r + ")", RefusalTest::thrownAndSet, x -> x.cancel(r));
        }
        for (int r : Outside.of(16)) {
            refused("cancel(" + r + ") of sixteen", RefusalTest::thrownMesh, x -> x.cancel(r));
        }
        refused("cancel of a route that is not set", RefusalTest::thrownAndSet, x -> x.cancel(0));
        Supplier<RouteInterlocking> atSignal = () -> {
            RouteInterlocking x = thrown();
            x.put(0, 1);
            return x;
        };
        refused("cancel of a route that is not set, with a train at its signal", atSignal, x -> x.cancel(1));
        refused("cancel with a train under way", RefusalTest::underWay, x -> x.cancel(0));
        Supplier<RouteInterlocking> behind = () -> {
            RouteInterlocking x = underWay();
            x.put(1, 1);
            return x;
        };
        refused("cancel with a train under way and one behind it", behind, x -> x.cancel(0));
        refused("cancel of a route being cancelled", RefusalTest::waiting, x -> x.cancel(0));
        Supplier<RouteInterlocking> gone = () -> {
            RouteInterlocking x = waiting();
            x.turn(0, 0);
            return x;
        };
        refused("cancel of a route being cancelled, without the train", gone, x -> x.cancel(0));
    }

    /** The states in which a question is asked that is answered by a code below 0, or by a false that says there is none. */
    private static void questions() {
        CHECK.under("Promise 18: a call that is refused by a code below 0 changes nothing");
        List<Supplier<RouteInterlocking>> states = List.of(
            RefusalTest::thrown, RefusalTest::thrownAndSet, RefusalTest::thrownWithATrain, RefusalTest::waiting, RefusalTest::underWay);
        for (Supplier<RouteInterlocking> state : states) {
            refused("via without a route", state, x -> x.via(2, 0) != BAD);
            refused("via without a joint", state, x -> x.via(0, 5) != NONE);
            refused("position outside", state, x -> x.position(20) != BAD);
            refused("position of no point", state, x -> x.position(19) != NONE);
            refused("lock outside", state, x -> x.lock(10) != BAD);
            refused("lock of none", state, x -> x.lock(8) != NONE);
            refused("train outside", state, x -> x.train(3) != BAD);
            refused("train absent", state, x -> x.train(2) != NONE);
            refused("blocked without a route", state, x -> x.blocked(2) != BAD);
            refused("hops from outside", state, x -> x.hops(20, 0) != BAD);
            refused("hops to outside", state, x -> x.hops(0, 10) != BAD);
            refused("hops without a way", state, x -> x.hops(0, 7) != NONE);
            refused("conflict without a route", state, x -> x.conflict(2, 2));
        }
    }
}
