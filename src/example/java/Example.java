public class Example {
    public static void main(String[] args) {
        RouteInterlocking yard = new RouteInterlocking();
        yard.joint(1, 2);                           // joint 0: section 0 to section 1
        yard.joint(3, 4);                           // joint 1: section 1 to section 2 ...
        yard.joint(3, 6);                           // joint 2: ... or to section 3, so end 3 is a point
        yard.signal(1, true);                       // routes begin here, and end where the line ends
        System.out.println(yard.routes());          // 2: route 0 to section 2, route 1 to section 3
        System.out.println(yard.via(1, 1));         // 2: the second joint of route 1
        System.out.println(yard.put(0, 1));         // true: train 0 is in section 0, heading for the signal
        System.out.println(yard.set(1));            // true: route 1 is set
        System.out.println(yard.position(3));       // 1: the point lies for joint 2
        System.out.println(yard.lock(3));           // 1: route 1 has locked section 3
        System.out.println(yard.blocked(0));        // 3: route 0 would enter section 1, which is locked
        System.out.println(yard.tick(1));           // 1: the train has moved into section 1
        System.out.println(yard.train(0));          // 203: it heads for end 3, under way on route 1
        System.out.println(yard.tick(20));          // 1: it has come to section 3, the route's last
        System.out.println(yard.train(0));          // 7: it heads for end 7, and is not under way any more
        System.out.println(yard.lock(3));           // -2, NONE: nothing is locked any more
        System.out.println(yard.lock(10));          // -1, BAD: there is no section 10
        System.out.println(yard.joint(7, 8));       // false: there is a train
    }
}
