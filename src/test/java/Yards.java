/** Yards that several tests use. */
final class Yards {
    private Yards() {
    }

    static RouteInterlocking with(int[] joints, int... signals) {
        RouteInterlocking x = new RouteInterlocking();
        for (int i = 0; i < joints.length; i += 2) {
            if (!x.joint(joints[i], joints[i + 1])) {
                throw new IllegalStateException("joint " + joints[i] + " " + joints[i + 1]);
            }
        }
        for (int end : signals) {
            if (!x.signal(end, true)) {
                throw new IllegalStateException("signal " + end);
            }
        }
        return x;
    }

    /** Sections 0 to 3 in a line; route 0 goes from end 1 through sections 1 and 2 to section 3. */
    static RouteInterlocking line() {
        return with(new int[] {1, 2, 3, 4, 5, 6}, 1);
    }

    /** Sections 0 to n in a line, joined by joints 0 to n - 1, joint i from end 2 i + 1 to end 2 i + 2. */
    static int[] lineOf(int n) {
        int[] joints = new int[2 * n];
        for (int i = 0; i < 2 * n; i++) {
            joints[i] = i + 1;
        }
        return joints;
    }

    /** Sections 0 to 3 in a line with a signal at every inner end that looks onwards: routes 0, 1 and 2 of a joint each. */
    static RouteInterlocking chain() {
        return with(new int[] {1, 2, 3, 4, 5, 6}, 1, 3, 5);
    }

    /** A fork at end 1: route 0 to section 1 by joint 0, route 1 to section 2 by joint 1. */
    static RouteInterlocking fork() {
        return with(new int[] {1, 2, 1, 4}, 1);
    }

    /**
     * Two tracks that meet: sections 0 and 1 join section 2 at its end 4, and 3 and 4 follow it.
     * Route 0: from end 1 by joints 0, 2, 3; route 1: from end 3 by joints 1, 2, 3; both to section 4.
     */
    static RouteInterlocking merge() {
        return with(new int[] {1, 4, 3, 4, 5, 6, 7, 8}, 1, 3);
    }

    /**
     * Section 1 joined to a yard at its end 2 by a fork (sections 0 and 2), with signals at ends 1 and 2:
     * route 0 from end 1 by joint 0 into section 1, route 1 from end 2 by joint 0 into section 0,
     * route 2 from end 2 by joint 1 into section 2.
     */
    static RouteInterlocking facing() {
        return with(new int[] {1, 2, 2, 4}, 1, 2);
    }

    /** Five pairs of sections, each pair joined by one joint, with signals at both ends of it: 10 routes of a joint each. */
    static RouteInterlocking pairs() {
        return with(new int[] {1, 2, 5, 6, 9, 10, 13, 14, 17, 18}, 1, 2, 5, 6, 9, 10, 13, 14, 17, 18);
    }

    /** Four layers of two sections, each joined to both of the next layer by 12 joints: 2 * 2 * 2 ways from end 1, as many from end 3. */
    static int[] mesh() {
        return new int[] {1, 4, 1, 6, 3, 4, 3, 6, 5, 8, 5, 10, 7, 8, 7, 10, 9, 12, 9, 14, 11, 12, 11, 14};
    }

    /**
     * Ten sections in a ring, joint i from end 2 i + 1 to the next section, joint 9 from end 19 to end 0, and signals
     * at ends 0 to signals - 1. Each signal begins one route (at 12 signals or more, else some are too long).
     */
    static RouteInterlocking ring(int signals) {
        RouteInterlocking x = with(new int[] {1, 2, 3, 4, 5, 6, 7, 8, 9, 10, 11, 12, 13, 14, 15, 16, 17, 18, 19, 0});
        for (int end = 0; end < signals; end++) {
            if (!x.signal(end, true)) {
                throw new IllegalStateException("signal " + end);
            }
        }
        return x;
    }
}
