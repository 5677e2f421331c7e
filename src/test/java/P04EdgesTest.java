/** Promise 4 at its edges: clocks that do not exist, the clamp, and all that stays. */
public final class P04EdgesTest {
    private static final long SECOND = 1000000000L;

    public static void main(String[] args) {
        Due due = new Due();
        refusesClocksThatDoNotExist(due);
        acceptsTheFirstAndTheLastClock(due);
        clampsAtTheLowerBound(due);
        clampsAtTheUpperBound(due);
        changesNothingElse(due);
        driftsEveryStep(due);
        due.end();
    }

    /** "is refused when c is not in 0..N-1: it answers false and nothing changes" */
    private static void refusesClocksThatDoNotExist(Due due) {
        for (int n = 2; n <= 8; n++) {
            GrandClock x = Scenes.ring(n);
            for (int c : Scenes.outside(n)) {
                due.call(x.setDrift(c, 99), false, "setDrift", c, 99);
                due.call(x.setDrift(c, -100001), false, "setDrift", c, -100001);
            }
            due.twins(x, Scenes.ring(n), "refused calls of setDrift on " + n + " clocks");
        }
    }

    private static void acceptsTheFirstAndTheLastClock(Due due) {
        for (int n = 2; n <= 8; n++) {
            GrandClock x = new GrandClock(n, 1, 1);
            due.call(x.setDrift(0, 3), true, "setDrift", 0, 3);
            due.call(x.setDrift(n - 1, -4), true, "setDrift", n - 1, -4);
            x.run(1);
            for (int c = 0; c < n; c++) {
                due.call(x.getTime(c), SECOND + (c == 0 ? 3 : c == n - 1 ? -4 : 0), "getTime", c);
            }
        }
    }

    /** "drift(c) = clamp(ppb, -MAX_DRIFT, MAX_DRIFT)" */
    private static void clampsAtTheLowerBound(Due due) {
        taken(due, Integer.MIN_VALUE, -100000);
        taken(due, -100001, -100000);
        taken(due, -100000, -100000);
        taken(due, -99999, -99999);
        taken(due, -1, -1);
    }

    /** "drift(c) = clamp(ppb, -MAX_DRIFT, MAX_DRIFT)" */
    private static void clampsAtTheUpperBound(Due due) {
        taken(due, 0, 0);
        taken(due, 1, 1);
        taken(due, 99999, 99999);
        taken(due, 100000, 100000);
        taken(due, 100001, 100000);
        taken(due, Integer.MAX_VALUE, 100000);
    }

    private static void taken(Due due, int given, int drift) {
        GrandClock x = new GrandClock(2, 1, 1);
        x.setTime(1, 5L);
        due.call(x.setDrift(1, given), true, "setDrift", 1, given);
        x.run(1);
        due.call(x.getTime(1), 5 + SECOND + drift, "getTime", 1);
    }

    /** "Nothing else changes": not the time, nor what the servo holds. */
    private static void changesNothingElse(Due due) {
        GrandClock x = Scenes.busy();
        for (int c = 0; c < 5; c++) {
            due.call(x.setDrift(c, 100000), true, "setDrift", c, 100000);
        }
        due.same(Seen.all(x), Seen.all(Scenes.busy()), "setDrift before a step");
        for (int c = 0; c < 5; c++) {
            x.setDrift(c, c == 0 ? 40000 : c == 2 ? -25000 : 0);
        }
        due.twins(x, Scenes.busy(), "setDrift there and back");
    }

    private static void driftsEveryStep(Due due) {
        GrandClock x = new GrandClock(2, 1, 1);
        x.setDrift(0, 100000);
        x.setDrift(1, -100000);
        x.run(64);
        due.call(x.getTime(0), 64 * 1000100000L, "getTime", 0);
        due.call(x.getTime(1), 64 * 999900000L, "getTime", 1);
    }
}
