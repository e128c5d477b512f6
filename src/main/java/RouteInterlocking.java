/**
 * A small railway yard: routes between signals, and what is locked for them while trains go.
 *
 * End e of section s is the number 2 s + e, so end / 2 is its section and end ^ 1 the opposite end.
 */
public final class RouteInterlocking {
    public static final int BAD = -1;
    public static final int NONE = -2;

    private static final int SECTIONS = 10;
    private static final int ENDS = 20;
    private static final int MAX_JOINTS = 12;
    private static final int JOINTS_PER_END = 2;
    private static final int END_JOINTS = 40;
    private static final int MAX_ROUTES = 16;
    private static final int MAX_STEPS = 5;
    private static final int ROUTE_STEPS = 80;
    private static final int TRAINS = 3;
    private static final int CANCEL_TICKS = 3;
    private static final int MAX_TICKS = 20;

    private int jointCount = 0;
    private final int[] jointFrom = new int[MAX_JOINTS];
    private final int[] jointTo = new int[MAX_JOINTS];

    private final int[] endJointCount = new int[ENDS];
    private final int[] endJoint = new int[END_JOINTS];
    private final int[] pointPosition = new int[ENDS];
    private final boolean[] signalAt = new boolean[ENDS];

    // Step i of route r stands at r * MAX_STEPS + i: its joint, and the end by which that enters a section.
    private int routeCount = 0;
    private final int[] routeStart = new int[MAX_ROUTES];
    private final int[] routeLength = new int[MAX_ROUTES];
    private final int[] stepJoint = new int[ROUTE_STEPS];
    private final int[] stepEntry = new int[ROUTE_STEPS];
    private final int[] conflictBits = new int[MAX_ROUTES];

    // A need is held for each route and joint, not for each point: two set routes may need the same position.
    private final boolean[] routeIsSet = new boolean[MAX_ROUTES];
    private final int[] cancelWait = new int[MAX_ROUTES];
    private final boolean[] stepHolds = new boolean[ROUTE_STEPS];
    private final int[] lockedBy = new int[SECTIONS];

    private final int[] heading = new int[TRAINS];
    private final int[] trainRoute = new int[TRAINS];
    private final int[] stepsDone = new int[TRAINS];

    public RouteInterlocking() {
        for (int section = 0; section < SECTIONS; section++) {
            lockedBy[section] = NONE;
        }
        for (int t = 0; t < TRAINS; t++) {
            heading[t] = NONE;
            trainRoute[t] = NONE;
        }
    }

    public boolean joint(int a, int b) {
        if (!isEnd(a) || !isEnd(b) || a / 2 == b / 2) {
            return false;
        }
        if (jointCount >= MAX_JOINTS || !hasRoomForJoint(a) || !hasRoomForJoint(b) || areJoined(a, b)) {
            return false;
        }
        if (!isYardFree()) {
            return false;
        }
        jointFrom[jointCount] = a;
        jointTo[jointCount] = b;
        attachJoint(a, jointCount);
        attachJoint(b, jointCount);
        jointCount++;
        resetPoints();
        findRoutes();
        return true;
    }

    public boolean signal(int a, boolean on) {
        if (!isEnd(a) || signalAt[a] == on || !isYardFree()) {
            return false;
        }
        signalAt[a] = on;
        findRoutes();
        return true;
    }

    public boolean put(int t, int a) {
        if (!isTrain(t) || !isEnd(a) || heading[t] != NONE) {
            return false;
        }
        if (isOccupied(a / 2) || lockedBy[a / 2] != NONE) {
            return false;
        }
        heading[t] = a;
        return true;
    }

    public boolean turn(int t, int what) {
        if (!isTrain(t) || what < 0 || what > 1) {
            return false;
        }
        if (heading[t] == NONE || trainRoute[t] != NONE) {
            return false;
        }
        heading[t] = what == 0 ? NONE : heading[t] ^ 1;
        return true;
    }

    public boolean set(int r) {
        if (!isRoute(r) || obstacleFor(r) != 0) {
            return false;
        }
        routeIsSet[r] = true;
        for (int i = 0; i < routeLength[r]; i++) {
            int step = r * MAX_STEPS + i;
            int joint = stepJoint[step];
            lockedBy[stepEntry[step] / 2] = r;
            stepHolds[step] = true;
            placePoint(jointFrom[joint], joint);
            placePoint(jointTo[joint], joint);
        }
        return true;
    }

    public boolean cancel(int r) {
        if (!isRoute(r) || !routeIsSet[r] || cancelWait[r] > 0 || isTravelled(r)) {
            return false;
        }
        if (isHeadedFor(routeStart[r])) {
            cancelWait[r] = CANCEL_TICKS;
        } else {
            releaseRoute(r);
        }
        return true;
    }

    public int tick(int n) {
        int moves = 0;
        for (int done = 0; done < n && done < MAX_TICKS; done++) {
            countDownCancels();
            moves += moveTrains();
        }
        return moves;
    }

    public int routes() {
        return routeCount;
    }

    public int via(int r, int i) {
        if (!isRoute(r)) {
            return BAD;
        }
        if (i < 0 || i >= routeLength[r]) {
            return NONE;
        }
        return stepJoint[r * MAX_STEPS + i];
    }

    public int position(int a) {
        if (!isEnd(a)) {
            return BAD;
        }
        return isPoint(a) ? pointPosition[a] : NONE;
    }

    public int lock(int s) {
        return isSection(s) ? lockedBy[s] : BAD;
    }

    public int train(int t) {
        if (!isTrain(t)) {
            return BAD;
        }
        if (trainRoute[t] == NONE) {
            return heading[t];
        }
        return heading[t] + 100 * (trainRoute[t] + 1);
    }

    public int blocked(int r) {
        return isRoute(r) ? obstacleFor(r) : BAD;
    }

    public boolean conflict(int r, int q) {
        return isRoute(r) && isRoute(q) && (conflictBits[r] >> q & 1) != 0;
    }

    public int largest() {
        int best = 0;
        for (int chosen = 0; chosen < 1 << routeCount; chosen++) {
            int clashing = clashingRouteIn(chosen);
            if (clashing == NONE) {
                int size = countRoutesIn(chosen);
                best = size > best ? size : best;
            } else {
                // Every choice with the same routes from the clashing one upwards clashes too.
                chosen |= (1 << clashing) - 1;
            }
        }
        return best;
    }

    public int hops(int a, int s) {
        if (!isEnd(a) || !isSection(s)) {
            return BAD;
        }
        if (a / 2 == s) {
            return 0;
        }
        int reached = 1 << a;
        // A shortest way takes no route twice.
        for (int used = 1; used <= MAX_ROUTES; used++) {
            reached |= endsOneRouteFrom(reached);
            if ((reached >> 2 * s & 3) != 0) {
                return used;
            }
        }
        return NONE;
    }

    private boolean isEnd(int a) {
        return a >= 0 && a < ENDS;
    }

    private boolean isSection(int s) {
        return s >= 0 && s < SECTIONS;
    }

    private boolean isTrain(int t) {
        return t >= 0 && t < TRAINS;
    }

    private boolean isRoute(int r) {
        return r >= 0 && r < routeCount;
    }

    private boolean isPoint(int end) {
        return endJointCount[end] == JOINTS_PER_END;
    }

    private boolean hasRoomForJoint(int end) {
        return endJointCount[end] < JOINTS_PER_END;
    }

    private boolean areJoined(int a, int b) {
        for (int i = 0; i < endJointCount[a]; i++) {
            if (farEnd(endJoint[a * JOINTS_PER_END + i], a) == b) {
                return true;
            }
        }
        return false;
    }

    private int farEnd(int joint, int nearEnd) {
        return jointFrom[joint] == nearEnd ? jointTo[joint] : jointFrom[joint];
    }

    private boolean isYardFree() {
        for (int t = 0; t < TRAINS; t++) {
            if (heading[t] != NONE) {
                return false;
            }
        }
        for (int r = 0; r < routeCount; r++) {
            if (routeIsSet[r]) {
                return false;
            }
        }
        return true;
    }

    private void attachJoint(int end, int joint) {
        endJoint[end * JOINTS_PER_END + endJointCount[end]] = joint;
        endJointCount[end]++;
    }

    private void resetPoints() {
        for (int end = 0; end < ENDS; end++) {
            pointPosition[end] = 0;
        }
    }

    private void findRoutes() {
        routeCount = 0;
        for (int end = 0; end < ENDS; end++) {
            if (signalAt[end]) {
                findRoutesFrom(end);
            }
        }
        findConflicts();
    }

    // The choice at the first step is the highest bit, so counting up gives the order of the lists of joints.
    private void findRoutesFrom(int start) {
        for (int choices = 0; choices < 1 << MAX_STEPS && routeCount < MAX_ROUTES; choices++) {
            int length = followWay(start, choices);
            if (length > 0) {
                routeStart[routeCount] = start;
                routeLength[routeCount] = length;
                routeCount++;
            }
        }
    }

    // Writes the way where the next route would stand; answers its length, 0 if it is no route.
    private int followWay(int start, int choices) {
        int sectionBits = 1 << start / 2;
        int end = start;
        for (int i = 0; i < MAX_STEPS; i++) {
            int choice = choices >> (MAX_STEPS - 1 - i) & 1;
            if (choice >= endJointCount[end]) {
                return 0;
            }
            int joint = endJoint[end * JOINTS_PER_END + choice];
            int entry = farEnd(joint, end);
            if ((sectionBits >> entry / 2 & 1) != 0) {
                return 0;
            }
            sectionBits |= 1 << entry / 2;
            stepJoint[routeCount * MAX_STEPS + i] = joint;
            stepEntry[routeCount * MAX_STEPS + i] = entry;
            end = entry ^ 1;
            if (signalAt[end] || endJointCount[end] == 0) {
                // Choices left over must be 0, else the same route would be found again.
                int leftOver = choices & (1 << (MAX_STEPS - 1 - i)) - 1;
                return leftOver == 0 ? i + 1 : 0;
            }
        }
        return 0;
    }

    private void findConflicts() {
        for (int r = 0; r < routeCount; r++) {
            conflictBits[r] = 0;
            for (int q = 0; q < routeCount; q++) {
                if (r == q || areInConflict(r, q)) {
                    conflictBits[r] |= 1 << q;
                }
            }
        }
    }

    private boolean areInConflict(int r, int q) {
        for (int i = 0; i < routeLength[r]; i++) {
            for (int k = 0; k < routeLength[q]; k++) {
                int step = r * MAX_STEPS + i;
                int other = q * MAX_STEPS + k;
                if (stepEntry[step] / 2 == stepEntry[other] / 2 || branchApart(stepJoint[step], stepJoint[other])) {
                    return true;
                }
            }
        }
        return false;
    }

    // Different joints at one end make it a point, and need it in different positions.
    private boolean branchApart(int joint, int other) {
        if (joint == other) {
            return false;
        }
        return jointFrom[joint] == jointFrom[other] || jointFrom[joint] == jointTo[other]
            || jointTo[joint] == jointFrom[other] || jointTo[joint] == jointTo[other];
    }

    private boolean isOccupied(int section) {
        for (int t = 0; t < TRAINS; t++) {
            if (heading[t] != NONE && heading[t] / 2 == section) {
                return true;
            }
        }
        return false;
    }

    private boolean isHeadedFor(int end) {
        for (int t = 0; t < TRAINS; t++) {
            if (heading[t] == end) {
                return true;
            }
        }
        return false;
    }

    private boolean isTravelled(int r) {
        for (int t = 0; t < TRAINS; t++) {
            if (trainRoute[t] == r) {
                return true;
            }
        }
        return false;
    }

    // The number that blocked answers for a route that is there.
    private int obstacleFor(int r) {
        if (routeIsSet[r]) {
            return 1;
        }
        if (entersOccupied(r)) {
            return 2;
        }
        if (entersLocked(r)) {
            return 3;
        }
        return needsFastPointMoved(r) ? 4 : 0;
    }

    private boolean entersOccupied(int r) {
        for (int i = 0; i < routeLength[r]; i++) {
            if (isOccupied(stepEntry[r * MAX_STEPS + i] / 2)) {
                return true;
            }
        }
        return false;
    }

    private boolean entersLocked(int r) {
        for (int i = 0; i < routeLength[r]; i++) {
            if (lockedBy[stepEntry[r * MAX_STEPS + i] / 2] != NONE) {
                return true;
            }
        }
        return false;
    }

    private boolean needsFastPointMoved(int r) {
        for (int i = 0; i < routeLength[r]; i++) {
            int joint = stepJoint[r * MAX_STEPS + i];
            if (isFastAgainst(jointFrom[joint], joint) || isFastAgainst(jointTo[joint], joint)) {
                return true;
            }
        }
        return false;
    }

    private boolean isFastAgainst(int end, int joint) {
        if (!isPoint(end) || endJoint[end * JOINTS_PER_END + pointPosition[end]] == joint) {
            return false;
        }
        return isOccupied(end / 2) || isHeld(end);
    }

    private boolean isHeld(int end) {
        for (int r = 0; r < routeCount; r++) {
            for (int i = 0; i < routeLength[r]; i++) {
                int step = r * MAX_STEPS + i;
                int joint = stepJoint[step];
                if (stepHolds[step] && (jointFrom[joint] == end || jointTo[joint] == end)) {
                    return true;
                }
            }
        }
        return false;
    }

    private void placePoint(int end, int joint) {
        if (isPoint(end)) {
            pointPosition[end] = endJoint[end * JOINTS_PER_END] == joint ? 0 : 1;
        }
    }

    // A route comes here with no tick left to wait: one that waits is neither cancelled again nor taken by a train.
    private void releaseRoute(int r) {
        routeIsSet[r] = false;
        for (int i = 0; i < routeLength[r]; i++) {
            releaseStep(r, i);
        }
    }

    // A section passed earlier may be locked by another route since then, which keeps its lock.
    private void releaseStep(int r, int i) {
        int step = r * MAX_STEPS + i;
        int section = stepEntry[step] / 2;
        stepHolds[step] = false;
        if (lockedBy[section] == r) {
            lockedBy[section] = NONE;
        }
    }

    private void countDownCancels() {
        for (int r = 0; r < routeCount; r++) {
            if (cancelWait[r] > 0) {
                cancelWait[r]--;
                if (cancelWait[r] == 0) {
                    releaseRoute(r);
                }
            }
        }
    }

    private int moveTrains() {
        int moves = 0;
        for (int t = 0; t < TRAINS; t++) {
            if (heading[t] != NONE && trainRoute[t] == NONE) {
                trainRoute[t] = openRouteFrom(heading[t]);
                stepsDone[t] = 0;
            }
            if (trainRoute[t] != NONE) {
                moveTrain(t);
                moves++;
            }
        }
        return moves;
    }

    private int openRouteFrom(int end) {
        for (int r = 0; r < routeCount; r++) {
            if (routeStart[r] == end && routeIsSet[r] && cancelWait[r] == 0 && !isTravelled(r)) {
                return r;
            }
        }
        return NONE;
    }

    private void moveTrain(int t) {
        int r = trainRoute[t];
        if (stepsDone[t] > 0) {
            releaseStep(r, stepsDone[t] - 1);
        }
        heading[t] = stepEntry[r * MAX_STEPS + stepsDone[t]] ^ 1;
        stepsDone[t]++;
        if (stepsDone[t] >= routeLength[r]) {
            trainRoute[t] = NONE;
            releaseRoute(r);
        }
    }

    // The greatest chosen route that conflicts with a chosen one of a greater number; NONE if no two conflict.
    private int clashingRouteIn(int chosen) {
        for (int r = routeCount - 1; r >= 0; r--) {
            int greater = chosen >> (r + 1) << (r + 1);
            if ((chosen >> r & 1) != 0 && (conflictBits[r] & greater) != 0) {
                return r;
            }
        }
        return NONE;
    }

    private int countRoutesIn(int chosen) {
        int count = 0;
        for (int r = 0; r < routeCount; r++) {
            count += chosen >> r & 1;
        }
        return count;
    }

    private int endsOneRouteFrom(int reached) {
        int ends = 0;
        for (int r = 0; r < routeCount; r++) {
            if ((reached >> routeStart[r] & 1) != 0) {
                int lastEntry = stepEntry[r * MAX_STEPS + routeLength[r] - 1];
                ends |= 1 << (lastEntry ^ 1);
            }
        }
        return ends;
    }
}
