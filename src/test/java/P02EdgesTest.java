/** Promise 2 at its edges: clocks that do not exist, both clamps, and all that stays. */
public final class P02EdgesTest {
    public static void main(String[] args) {
        Due due = new Due();
        refusesClocksThatDoNotExist(due);
        acceptsTheFirstAndTheLastClock(due);
        clampsPriority1(due);
        clampsPriority2(due);
        changesNothingElse(due);
        leavesTheVectorToPhase5(due);
        takesTheLastOfSeveralCalls(due);
        due.end();
    }

    /** "is refused when c is not in 0..N-1: it answers false and nothing changes" */
    private static void refusesClocksThatDoNotExist(Due due) {
        for (int n = 2; n <= 8; n++) {
            GrandClock x = Scenes.ring(n);
            for (int c : Scenes.outside(n)) {
                due.call(x.setPriority(c, 0, 0), false, "setPriority", c, 0, 0);
                due.call(x.setPriority(c, -1, 256), false, "setPriority", c, -1, 256);
            }
            due.twins(x, Scenes.ring(n), "refused calls of setPriority on " + n + " clocks");
        }
    }

    private static void acceptsTheFirstAndTheLastClock(Due due) {
        for (int n = 2; n <= 8; n++) {
            GrandClock x = new GrandClock(n, 1, 1);
            due.call(x.setPriority(0, 3, 4), true, "setPriority", 0, 3, 4);
            due.call(x.setPriority(n - 1, 5, 6), true, "setPriority", n - 1, 5, 6);
            x.run(1);
            due.ownVector(x, 0, 3, 248, 254, 65535, 4);
            due.ownVector(x, n - 1, 5, 248, 254, 65535, 6);
        }
    }

    /** "D(c).priority1 = clamp(p1, 0, 255)" */
    private static void clampsPriority1(Due due) {
        priority1(due, Integer.MIN_VALUE, 0);
        priority1(due, -256, 0);
        priority1(due, -1, 0);
        priority1(due, 0, 0);
        priority1(due, 1, 1);
        priority1(due, 254, 254);
        priority1(due, 255, 255);
        priority1(due, 256, 255);
        priority1(due, 65537, 255);
        priority1(due, Integer.MAX_VALUE, 255);
    }

    private static void priority1(Due due, int given, int taken) {
        GrandClock x = new GrandClock(2, 1, 1);
        due.call(x.setPriority(1, given, 77), true, "setPriority", 1, given, 77);
        x.run(1);
        due.ownVector(x, 1, taken, 248, 254, 65535, 77);
    }

    /** "D(c).priority2 = clamp(p2, 0, 255)" */
    private static void clampsPriority2(Due due) {
        priority2(due, Integer.MIN_VALUE, 0);
        priority2(due, -256, 0);
        priority2(due, -1, 0);
        priority2(due, 0, 0);
        priority2(due, 1, 1);
        priority2(due, 254, 254);
        priority2(due, 255, 255);
        priority2(due, 256, 255);
        priority2(due, 65537, 255);
        priority2(due, Integer.MAX_VALUE, 255);
    }

    private static void priority2(Due due, int given, int taken) {
        GrandClock x = new GrandClock(2, 1, 1);
        due.call(x.setPriority(1, 77, given), true, "setPriority", 1, 77, given);
        x.run(1);
        due.ownVector(x, 1, 77, 248, 254, 65535, taken);
    }

    /** "Nothing else changes": what was there before stands again after the way there and back. */
    private static void changesNothingElse(Due due) {
        GrandClock x = Scenes.busy();
        due.call(x.setPriority(3, 255, 0), true, "setPriority", 3, 255, 0);
        due.call(x.setPriority(1, 0, 255), true, "setPriority", 1, 0, 255);
        due.same(Seen.state(x), Seen.state(Scenes.busy()), "setPriority before a step");
        x.setPriority(3, 10, 20);
        x.setPriority(1, 128, 128);
        due.twins(x, Scenes.busy(), "setPriority there and back");
    }

    /** "In particular V(c) is NOT changed here; only phase 5 of a step changes it." */
    private static void leavesTheVectorToPhase5(Due due) {
        GrandClock x = Scenes.pair(4, 0, 0);
        x.run(3);
        due.call(x.setPriority(1, 9, 8), true, "setPriority", 1, 9, 8);
        due.message(x, 1, -1, 128, 248, 254, 65535, 128, 0, 1, 1);
        due.call(x.run(0), 0, "run", 0);
        due.message(x, 1, -1, 128, 248, 254, 65535, 128, 0, 1, 1);
        due.follows(x, 1, 0, 0, 1);
        x.run(1);
        due.ownVector(x, 1, 9, 248, 254, 65535, 8);
        due.message(x, 1, 0, 128, 248, 254, 65535, 128, 0, 0, 0);
    }

    private static void takesTheLastOfSeveralCalls(Due due) {
        GrandClock x = new GrandClock(2, 1, 1);
        x.setPriority(0, 1, 2);
        x.setPriority(0, 3, 4);
        due.call(x.setPriority(2, 5, 6), false, "setPriority", 2, 5, 6);
        x.run(1);
        due.ownVector(x, 0, 3, 248, 254, 65535, 4);
        due.ownVector(x, 1, 128, 248, 254, 65535, 128);
    }
}
