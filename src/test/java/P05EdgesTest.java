/** Promise 5 at its edges: clocks that do not exist, the clamp, and all that stays. */
public final class P05EdgesTest {
    private static final long SECOND = 1000000000L;
    private static final long MAX = 1000000000000000000L;

    public static void main(String[] args) {
        Due due = new Due();
        refusesClocksThatDoNotExist(due);
        acceptsTheFirstAndTheLastClock(due);
        clampsAtTheLowerBound(due);
        clampsAtTheUpperBound(due);
        keepsNumbersBeyondAnInt(due);
        keepsServoAndLastMeasurement(due);
        changesNothingElse(due);
        due.end();
    }

    /** "is refused when c is not in 0..N-1: it answers false and nothing changes" */
    private static void refusesClocksThatDoNotExist(Due due) {
        for (int n = 2; n <= 8; n++) {
            GrandClock x = Scenes.ring(n);
            for (int c : Scenes.outside(n)) {
                due.call(x.setTime(c, 99L), false, "setTime", c, 99);
                due.call(x.setTime(c, -1L), false, "setTime", c, -1);
                due.call(x.setTime(c, Long.MAX_VALUE), false, "setTime", c, Long.MAX_VALUE);
            }
            due.twins(x, Scenes.ring(n), "refused calls of setTime on " + n + " clocks");
        }
    }

    private static void acceptsTheFirstAndTheLastClock(Due due) {
        for (int n = 2; n <= 8; n++) {
            GrandClock x = new GrandClock(n, 1, 1);
            due.call(x.setTime(0, 3L), true, "setTime", 0, 3);
            due.call(x.setTime(n - 1, 4L), true, "setTime", n - 1, 4);
            for (int c = 0; c < n; c++) {
                due.call(x.getTime(c), c == 0 ? 3 : c == n - 1 ? 4 : 0, "getTime", c);
            }
        }
    }

    private static void taken(Due due, long given, long time) {
        GrandClock x = new GrandClock(2, 1, 1);
        x.run(1);
        due.call(x.setTime(1, given), true, "setTime", 1, given);
        due.call(x.getTime(1), time, "getTime", 1);
        due.call(x.getTime(0), SECOND, "getTime", 0);
        x.run(1);
        due.call(x.getTime(1), time + SECOND, "getTime", 1);
    }

    /** "time(c) = clamp(t, 0, MAX_TIME)" */
    private static void clampsAtTheLowerBound(Due due) {
        taken(due, Long.MIN_VALUE, 0L);
        taken(due, -MAX, 0L);
        taken(due, -1L, 0L);
        taken(due, 0L, 0L);
        taken(due, 1L, 1L);
    }

    /** "time(c) = clamp(t, 0, MAX_TIME)" */
    private static void clampsAtTheUpperBound(Due due) {
        taken(due, MAX - 1, MAX - 1);
        taken(due, MAX, MAX);
        taken(due, MAX + 1, MAX);
        taken(due, Long.MAX_VALUE, MAX);
    }

    private static void keepsNumbersBeyondAnInt(Due due) {
        taken(due, Integer.MAX_VALUE, 2147483647L);
        taken(due, 1L << 31, 2147483648L);
        taken(due, 1L << 32, 4294967296L);
        taken(due, -(1L << 32) + 7, 0L);
    }

    /** "adjust(c), integral(c) and the last measurement stay as they were" */
    private static void keepsServoAndLastMeasurement(Due due) {
        GrandClock x = Scenes.pair(2, 700, 100);
        x.run(1);
        x.setTime(0, 10000L);
        x.setTime(1, 14000L);
        x.run(1);
        due.measures(x, 1, 4300, 400, 10000, 14700, 14700, 10800, -2687, -537, 1);
        x.setTime(1, 0L);
        x.setTime(0, MAX);
        due.measures(x, 1, 4300, 400, 10000, 14700, 14700, 10800, -2687, -537, 1);
        x.setTime(1, MAX);
        due.measures(x, 1, 4300, 400, 10000, 14700, 14700, 10800, -2687, -537, 1);
        x.setLinkUp(0, false);
        x.run(1);
        due.measures(x, 1, 4300, 400, 10000, 14700, 14700, 10800, -2687, -537, 1);
        due.call(x.getTime(1), MAX + SECOND - 2687, "getTime", 1);
    }

    /** "Nothing else changes": with the times it had before, all is as it was. */
    private static void changesNothingElse(Due due) {
        GrandClock x = Scenes.busy();
        long[] times = new long[5];
        for (int c = 0; c < 5; c++) {
            times[c] = x.getTime(c);
            x.setTime(c, MAX);
        }
        for (int c = 0; c < 5; c++) {
            due.call(x.getTime(c), MAX, "getTime", c);
            x.setTime(c, times[c]);
        }
        due.twins(x, Scenes.busy(), "setTime there and back");
    }
}
