/** All promises: runs of at most 512 calls, always the same ones, each answer against that of the model. */
public final class ModelTest {
    private static final int RUNS = 4000;
    // A clearing of the yard takes some twenty calls more, and none may be the 513th.
    private static final int CALLS = 480;
    private static final int[] ODD = {-1, Integer.MIN_VALUE, Integer.MAX_VALUE, 20, 10, 16, 3, 12, 5, 2};

    private final Check check;
    private final int run;
    private long seed;
    private RouteInterlocking x = new RouteInterlocking();
    private Model m = new Model();
    private int calls = 0;

    // How often the runs came to what matters: a test that never gets there tests nothing.
    private static long moves;
    private static long underWay;
    private static long waits;
    private static long sixteen;
    private static final long[] BLOCKED = new long[5];
    private static final long[] LARGEST = new long[11];

    private ModelTest(Check check, int run) {
        this.check = check;
        this.run = run;
        this.seed = run * 0x9E3779B97F4A7C15L + 12345;
    }

    public static void main(String[] args) {
        Check check = new Check("ModelTest");
        for (int run = 0; run < RUNS; run++) {
            new ModelTest(check, run).go();
        }
        check.yes("trains move: " + moves, moves > RUNS);
        check.yes("trains are under way: " + underWay, underWay > RUNS);
        check.yes("cancels wait: " + waits, waits > RUNS / 10);
        check.yes("yards have sixteen routes: " + sixteen, sixteen > RUNS / 100);
        for (int code = 0; code < BLOCKED.length; code++) {
            check.yes("blocked answers " + code + ": " + BLOCKED[code], BLOCKED[code] > RUNS);
        }
        for (int size = 0; size <= 5; size++) {
            check.yes("largest answers " + size + ": " + LARGEST[size], LARGEST[size] > 10);
        }
        check.end();
    }

    private int pick(int count) {
        seed = seed * 6364136223846793005L + 1442695040888963407L;
        return (int) ((seed >>> 33) % count);
    }

    /** Mostly a number from 0 to count - 1, now and then one from outside or at the edge. */
    private int some(int count) {
        return count <= 0 || pick(25) == 0 ? ODD[pick(ODD.length)] : pick(count);
    }

    private void tell(String call, long got, long due) {
        calls++;
        check.same("run " + run + ", call " + calls + ": " + call, got, due);
    }

    private void tell(String call, boolean got, boolean due) {
        tell(call, got ? 1 : 0, due ? 1 : 0);
    }

    private void go() {
        int tries = 10 + pick(40);
        boolean inLine = pick(3) != 0;
        for (int i = 0; i < tries; i++) {
            layJoint(inLine);
        }
        int lamps = 1 + pick(pick(2) == 0 ? 4 : 12);
        for (int i = 0; i < lamps; i++) {
            callSignal(true);
        }
        for (int r = 0; r <= m.routes(); r++) {
            for (int i = 0; i <= 5; i++) {
                tell("via(" + r + ", " + i + ")", x.via(r, i), m.via(r, i));
            }
        }
        callGraph();
        int changes = pick(4);
        while (calls < CALLS) {
            step(changes);
        }
    }

    private void layJoint(boolean inLine) {
        int a = some(20);
        int b = some(20);
        if (inLine && pick(4) != 0) {
            // Odd ends to even ones of a section near by: long ways, where chance alone makes short ones.
            a = 2 * pick(10) + 1;
            b = (a + 1 + 2 * pick(3)) % 20;
        }
        tell("joint(" + a + ", " + b + ")", x.joint(a, b), m.joint(a, b));
    }

    private void callSignal(boolean on) {
        int a = some(20);
        tell("signal(" + a + ", " + on + ")", x.signal(a, on), m.signal(a, on));
    }

    private void callGraph() {
        int largest = x.largest();
        tell("largest()", largest, m.largest());
        LARGEST[largest < 0 || largest > 10 ? 0 : largest]++;
        int count = x.routes();
        tell("routes()", count, m.routes());
        sixteen += count == 16 ? 1 : 0;
    }

    private void step(int changes) {
        int kind = pick(100);
        if (kind < 16) {
            callPut();
        } else if (kind < 26) {
            int t = some(3);
            int what = some(2);
            tell("turn(" + t + ", " + what + ")", x.turn(t, what), m.turn(t, what));
        } else if (kind < 44) {
            int r = pick(2) == 0 ? routeAtATrain() : some(m.routes());
            tell("set(" + r + ")", x.set(r), m.set(r));
        } else if (kind < 48) {
            int r = some(m.routes());
            tell("cancel(" + r + ")", x.cancel(r), m.cancel(r));
            waits += m.blocked(r) == 1 ? 1 : 0;
        } else if (kind < 62) {
            int n = pick(4) != 0 ? 1 : pick(8) == 0 ? some(25) : pick(4);
            int moved = x.tick(n);
            moves += moved;
            tell("tick(" + n + ")", moved, m.tick(n));
        } else if (kind < 66 && changes > 0) {
            change();
        } else {
            ask(kind % 8);
        }
    }

    private int routeAtATrain() {
        for (int t = 0; t < 3; t++) {
            int first = pick(16);
            for (int i = 0; i < 16; i++) {
                int r = (first + i) % 16;
                if (r < m.routes() && m.signalOf(r) == m.train(t) && m.blocked(r) == 0) {
                    return r;
                }
            }
        }
        return some(m.routes());
    }

    private void callPut() {
        int t = some(3);
        int a = m.routes() > 0 && pick(3) != 0 ? m.signalOf(pick(m.routes())) : some(20);
        tell("put(" + t + ", " + a + ")", x.put(t, a), m.put(t, a));
    }

    /** Changes of the yard are refused while it is in use: now and then all trains go away and all routes are cancelled. */
    private void change() {
        if (pick(6) == 0) {
            clear();
        }
        if (pick(3) == 0) {
            layJoint(pick(2) == 0);
        } else {
            callSignal(pick(2) == 0);
        }
        callGraph();
    }

    private void clear() {
        tell("tick(20)", x.tick(20), m.tick(20));
        for (int t = 0; t < 3; t++) {
            tell("turn(" + t + ", 0)", x.turn(t, 0), m.turn(t, 0));
        }
        for (int r = 0; r < 16; r++) {
            tell("cancel(" + r + ")", x.cancel(r), m.cancel(r));
        }
    }

    private void ask(int kind) {
        int r = some(m.routes());
        int q = some(m.routes());
        int a = some(20);
        int s = some(10);
        int t = some(3);
        int i = some(5);
        switch (kind) {
            case 0 -> tell("via(" + r + ", " + i + ")", x.via(r, i), m.via(r, i));
            case 1 -> tell("position(" + a + ")", x.position(a), m.position(a));
            case 2 -> tell("lock(" + s + ")", x.lock(s), m.lock(s));
            case 3, 4 -> {
                int where = x.train(t);
                underWay += where >= 100 ? 1 : 0;
                tell("train(" + t + ")", where, m.train(t));
            }
            case 5 -> {
                int code = x.blocked(r);
                BLOCKED[code < 0 || code > 4 ? 0 : code]++;
                tell("blocked(" + r + ")", code, m.blocked(r));
            }
            case 6 -> tell("conflict(" + r + ", " + q + ")", x.conflict(r, q), m.conflict(r, q));
            default -> tell("hops(" + a + ", " + s + ")", x.hops(a, s), m.hops(a, s));
        }
    }
}
