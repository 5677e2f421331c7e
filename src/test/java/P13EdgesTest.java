/** Promise 13 at its edges: clocks that do not exist, and times at their bounds and beyond. */
public final class P13EdgesTest {
    private static final long SECOND = 1000000000L;

    public static void main(String[] args) throws IllegalAccessException {
        Due due = new Due();
        answersZeroForAClockThatDoesNotExist(due);
        answersTheFirstAndTheLastClock(due);
        answersTimesAtTheirBounds(due);
        answersTimesBeyondTheirBounds(due);
        changesNothing(due);
        due.end();
    }

    /** "answers 0 if c is not in 0..N-1" */
    private static void answersZeroForAClockThatDoesNotExist(Due due) {
        for (int n = 2; n <= 8; n++) {
            GrandClock x = Scenes.ring(n);
            for (int c : Scenes.outside(n)) {
                x.setTime(c, 5L);
                due.call(x.getTime(c), 0, "getTime", c);
            }
            due.call(x.getTime(8), 0, "getTime", 8);
        }
    }

    private static void answersTheFirstAndTheLastClock(Due due) {
        for (int n = 2; n <= 8; n++) {
            GrandClock x = new GrandClock(n, 1, 1);
            for (int c = 0; c < n; c++) {
                due.call(x.getTime(c), 0, "getTime", c);
                x.setTime(c, c + 10L);
            }
            x.run(1);
            for (int c = 0; c < n; c++) {
                due.call(x.getTime(c), SECOND + c + 10, "getTime", c);
            }
        }
    }

    /** "and time(c) otherwise": a clock goes on beyond MAX_TIME, which bounds setTime alone. */
    private static void answersTimesAtTheirBounds(Due due) {
        GrandClock x = new GrandClock(2, 1, 1);
        x.setTime(0, GrandClock.MAX_TIME);
        x.setTime(1, 0L);
        due.call(x.getTime(0), GrandClock.MAX_TIME, "getTime", 0);
        due.call(x.getTime(1), 0, "getTime", 1);
        x.run(1);
        due.call(x.getTime(0), GrandClock.MAX_TIME + SECOND, "getTime", 0);
    }

    /** "and time(c) otherwise": the wrap-around leads to any long, and each is answered as it is. */
    private static void answersTimesBeyondTheirBounds(Due due) throws IllegalAccessException {
        GrandClock x = new GrandClock(2, 1, 1);
        for (long time : new long[] {Long.MIN_VALUE, -1L, GrandClock.MAX_TIME + 1, Long.MAX_VALUE}) {
            Inside.setTime(x, 1, time);
            due.call(x.getTime(1), time, "getTime", 1);
            due.call(x.getTime(0), 0, "getTime", 0);
        }
    }

    /** "Nothing changes." */
    private static void changesNothing(Due due) {
        GrandClock x = Scenes.busy();
        for (int c : Scenes.outside(5)) {
            x.getTime(c);
        }
        for (int c = 0; c < 5; c++) {
            x.getTime(c);
        }
        due.twins(x, Scenes.busy(), "getTime");
    }
}
