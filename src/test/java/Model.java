import java.util.ArrayList;
import java.util.Arrays;
import java.util.HashMap;
import java.util.HashSet;
import java.util.List;
import java.util.Map;
import java.util.Set;

/**
 * A second reading of the document, made of lists and sets and without regard to speed: everything that can be found
 * from joints, signals and trains is found anew at every call.
 */
final class Model {
    static final int BAD = -1;
    static final int NONE = -2;

    private static final class Train {
        int end;
        Route on;
        int sectionsPassed;
    }

    private static final class Route {
        final int signal;
        final List<Integer> joints = new ArrayList<>();
        final List<Integer> entries = new ArrayList<>();

        Route(int signal) {
            this.signal = signal;
        }

        Route with(int joint, int entry) {
            Route longer = new Route(signal);
            longer.joints.addAll(joints);
            longer.joints.add(joint);
            longer.entries.addAll(entries);
            longer.entries.add(entry);
            return longer;
        }

        Set<Integer> sections() {
            Set<Integer> entered = new HashSet<>();
            for (int entry : entries) {
                entered.add(entry / 2);
            }
            return entered;
        }

        int lastEnd() {
            return opposite(entries.get(entries.size() - 1));
        }
    }

    /** What a set route still has. */
    private static final class Hold {
        final Set<Integer> sections = new HashSet<>();
        final Set<Integer> joints = new HashSet<>();
        int ticksLeft = -1;
    }

    private final List<int[]> joints = new ArrayList<>();
    private final Set<Integer> signals = new HashSet<>();
    private final Map<Integer, Integer> positions = new HashMap<>();
    private final Train[] trains = new Train[3];
    private List<Route> routes = new ArrayList<>();
    private final Map<Route, Hold> holds = new HashMap<>();

    private static int opposite(int end) {
        return end % 2 == 0 ? end + 1 : end - 1;
    }

    private static boolean within(int value, int count) {
        return 0 <= value && value < count;
    }

    private List<Integer> jointsAt(int end) {
        List<Integer> found = new ArrayList<>();
        for (int j = 0; j < joints.size(); j++) {
            if (joints.get(j)[0] == end || joints.get(j)[1] == end) {
                found.add(j);
            }
        }
        return found;
    }

    private int across(int joint, int end) {
        int[] ends = joints.get(joint);
        return ends[0] + ends[1] - end;
    }

    private boolean busy() {
        for (Train train : trains) {
            if (train != null) {
                return true;
            }
        }
        return !holds.isEmpty();
    }

    private boolean occupied(int section) {
        for (Train train : trains) {
            if (train != null && train.end / 2 == section) {
                return true;
            }
        }
        return false;
    }

    private Route locker(int section) {
        for (Map.Entry<Route, Hold> hold : holds.entrySet()) {
            if (hold.getValue().sections.contains(section)) {
                return hold.getKey();
            }
        }
        return null;
    }

    private Train under(Route route) {
        for (Train train : trains) {
            if (train != null && train.on == route) {
                return train;
            }
        }
        return null;
    }

    private void listRoutes() {
        List<Route> all = new ArrayList<>();
        for (int end = 0; end < 20; end++) {
            if (signals.contains(end)) {
                extend(new Route(end), end, all);
            }
        }
        all.sort((one, two) -> {
            int bySignal = Integer.compare(one.signal, two.signal);
            return bySignal != 0 ? bySignal
                : Arrays.compare(one.joints.stream().mapToInt(j -> j).toArray(), two.joints.stream().mapToInt(j -> j).toArray());
        });
        routes = new ArrayList<>(all.subList(0, Math.min(16, all.size())));
    }

    private void extend(Route way, int end, List<Route> all) {
        if (way.joints.size() == 5) {
            return;
        }
        List<Integer> here = jointsAt(end);
        // The other way round, so that the order comes from the sorting alone.
        for (int i = here.size() - 1; i >= 0; i--) {
            int entry = across(here.get(i), end);
            if (way.sections().contains(entry / 2) || entry / 2 == way.signal / 2) {
                continue;
            }
            Route longer = way.with(here.get(i), entry);
            int next = opposite(entry);
            if (signals.contains(next) || jointsAt(next).isEmpty()) {
                all.add(longer);
            } else {
                extend(longer, next, all);
            }
        }
    }

    /** Point to position, for the joints given. */
    private Map<Integer, Integer> needs(Iterable<Integer> some) {
        Map<Integer, Integer> needed = new HashMap<>();
        for (int joint : some) {
            for (int end : joints.get(joint)) {
                List<Integer> here = jointsAt(end);
                if (here.size() == 2) {
                    needed.put(end, here.indexOf(joint));
                }
            }
        }
        return needed;
    }

    private boolean fast(int point) {
        if (occupied(point / 2)) {
            return true;
        }
        for (Hold hold : holds.values()) {
            if (needs(hold.joints).containsKey(point)) {
                return true;
            }
        }
        return false;
    }

    boolean joint(int a, int b) {
        if (joints.size() == 12 || !within(a, 20) || !within(b, 20) || a / 2 == b / 2 || busy()) {
            return false;
        }
        if (jointsAt(a).size() == 2 || jointsAt(b).size() == 2) {
            return false;
        }
        for (int[] ends : joints) {
            if (ends[0] == a && ends[1] == b || ends[0] == b && ends[1] == a) {
                return false;
            }
        }
        joints.add(new int[] {a, b});
        positions.clear();
        listRoutes();
        return true;
    }

    boolean signal(int a, boolean on) {
        if (!within(a, 20) || busy()) {
            return false;
        }
        boolean changed = on ? signals.add(a) : signals.remove(a);
        listRoutes();
        return changed;
    }

    boolean put(int t, int a) {
        if (!within(t, 3) || trains[t] != null || !within(a, 20) || occupied(a / 2) || locker(a / 2) != null) {
            return false;
        }
        trains[t] = new Train();
        trains[t].end = a;
        return true;
    }

    boolean turn(int t, int what) {
        if (!within(t, 3) || trains[t] == null || trains[t].on != null || !within(what, 2)) {
            return false;
        }
        if (what == 0) {
            trains[t] = null;
        } else {
            trains[t].end = opposite(trains[t].end);
        }
        return true;
    }

    boolean set(int r) {
        if (blocked(r) != 0) {
            return false;
        }
        Route route = routes.get(r);
        Hold hold = new Hold();
        hold.sections.addAll(route.sections());
        hold.joints.addAll(route.joints);
        holds.put(route, hold);
        positions.putAll(needs(route.joints));
        return true;
    }

    boolean cancel(int r) {
        if (!within(r, routes.size())) {
            return false;
        }
        Route route = routes.get(r);
        Hold hold = holds.get(route);
        if (hold == null || hold.ticksLeft >= 0 || under(route) != null) {
            return false;
        }
        for (Train train : trains) {
            if (train != null && train.end == route.signal) {
                hold.ticksLeft = 3;
                return true;
            }
        }
        holds.remove(route);
        return true;
    }

    int tick(int n) {
        int moves = 0;
        for (int left = Math.max(0, Math.min(20, n)); left > 0; left--) {
            for (Hold hold : holds.values()) {
                hold.ticksLeft = hold.ticksLeft > 0 ? hold.ticksLeft - 1 : hold.ticksLeft;
            }
            holds.values().removeIf(hold -> hold.ticksLeft == 0);
            for (Train train : trains) {
                moves += train != null && move(train) ? 1 : 0;
            }
        }
        return moves;
    }

    private boolean move(Train train) {
        if (train.on == null) {
            for (Route route : routes) {
                Hold hold = holds.get(route);
                if (hold != null && hold.ticksLeft < 0 && under(route) == null && route.signal == train.end) {
                    train.on = route;
                    train.sectionsPassed = 0;
                    break;
                }
            }
        }
        if (train.on == null) {
            return false;
        }
        Route route = train.on;
        Hold hold = holds.get(route);
        hold.sections.remove(train.end / 2);
        if (train.sectionsPassed > 0) {
            hold.joints.remove(route.joints.get(train.sectionsPassed - 1));
        }
        train.end = opposite(route.entries.get(train.sectionsPassed));
        train.sectionsPassed++;
        if (train.sectionsPassed == route.joints.size()) {
            train.on = null;
            holds.remove(route);
        }
        return true;
    }

    int routes() {
        return routes.size();
    }

    int signalOf(int r) {
        return routes.get(r).signal;
    }

    int via(int r, int i) {
        if (!within(r, routes.size())) {
            return BAD;
        }
        List<Integer> list = routes.get(r).joints;
        return within(i, list.size()) ? list.get(i) : NONE;
    }

    int position(int a) {
        if (!within(a, 20)) {
            return BAD;
        }
        return jointsAt(a).size() == 2 ? positions.getOrDefault(a, 0) : NONE;
    }

    int lock(int s) {
        if (!within(s, 10)) {
            return BAD;
        }
        Route route = locker(s);
        return route == null ? NONE : routes.indexOf(route);
    }

    int train(int t) {
        if (!within(t, 3)) {
            return BAD;
        }
        Train train = trains[t];
        if (train == null) {
            return NONE;
        }
        return train.end + (train.on == null ? 0 : 100 * (routes.indexOf(train.on) + 1));
    }

    int blocked(int r) {
        if (!within(r, routes.size())) {
            return BAD;
        }
        Route route = routes.get(r);
        if (holds.containsKey(route)) {
            return 1;
        }
        for (int section : route.sections()) {
            if (occupied(section)) {
                return 2;
            }
        }
        for (int section : route.sections()) {
            if (locker(section) != null) {
                return 3;
            }
        }
        for (Map.Entry<Integer, Integer> need : needs(route.joints).entrySet()) {
            if (position(need.getKey()) != need.getValue() && fast(need.getKey())) {
                return 4;
            }
        }
        return 0;
    }

    boolean conflict(int r, int q) {
        if (!within(r, routes.size()) || !within(q, routes.size())) {
            return false;
        }
        Set<Integer> common = routes.get(r).sections();
        common.retainAll(routes.get(q).sections());
        Map<Integer, Integer> mine = needs(routes.get(r).joints);
        Map<Integer, Integer> theirs = needs(routes.get(q).joints);
        boolean apart = false;
        for (int point : mine.keySet()) {
            apart |= theirs.containsKey(point) && !theirs.get(point).equals(mine.get(point));
        }
        return r == q || apart || !common.isEmpty();
    }

    int largest() {
        return largestFrom(0, new ArrayList<>());
    }

    private int largestFrom(int r, List<Integer> chosen) {
        if (r == routes.size()) {
            return chosen.size();
        }
        int best = largestFrom(r + 1, chosen);
        for (int q : chosen) {
            if (conflict(r, q)) {
                return best;
            }
        }
        List<Integer> more = new ArrayList<>(chosen);
        more.add(r);
        return Math.max(best, largestFrom(r + 1, more));
    }

    int hops(int a, int s) {
        if (!within(a, 20) || !within(s, 10)) {
            return BAD;
        }
        if (a / 2 == s) {
            return 0;
        }
        Map<Integer, Integer> distance = new HashMap<>();
        List<Integer> queue = new ArrayList<>();
        distance.put(a, 0);
        queue.add(a);
        for (int i = 0; i < queue.size(); i++) {
            for (Route route : routes) {
                if (route.signal == queue.get(i) && !distance.containsKey(route.lastEnd())) {
                    distance.put(route.lastEnd(), distance.get(queue.get(i)) + 1);
                    queue.add(route.lastEnd());
                }
            }
        }
        int best = Math.min(distance.getOrDefault(2 * s, 1000), distance.getOrDefault(2 * s + 1, 1000));
        return best == 1000 ? NONE : best;
    }
}
