/** Promise 14 at its edges: clocks and selectors that do not exist, and the first and the last that do. */
public final class P14EdgesTest {
    public static void main(String[] args) {
        Due due = new Due();
        answersZeroForAClockThatDoesNotExist(due);
        answersZeroForASelectorThatDoesNotExist(due);
        answersTheFirstAndTheLastSelector(due);
        answersOfTheFirstAndTheLastClock(due);
        answersZeroBeforeTheFirstMeasurement(due);
        changesNothing(due);
        due.end();
    }

    /** Clock 1 has been measured once, and none of its nine numbers is 0. */
    private static GrandClock measured() {
        GrandClock x = Scenes.pair(2, 700, 100);
        x.run(1);
        x.setTime(0, 10000L);
        x.setTime(1, 14000L);
        x.run(1);
        return x;
    }

    /** "answers 0 if c is not in 0..N-1" */
    private static void answersZeroForAClockThatDoesNotExist(Due due) {
        for (int n = 2; n <= 8; n++) {
            GrandClock x = Scenes.ring(n);
            for (int c : Scenes.outside(n)) {
                due.measures(x, c, 0, 0, 0, 0, 0, 0, 0, 0, 0);
            }
            due.measures(x, 8, 0, 0, 0, 0, 0, 0, 0, 0, 0);
        }
    }

    /** "or which is not in 0..8": at -1 and 9, and beyond them. */
    private static void answersZeroForASelectorThatDoesNotExist(Due due) {
        GrandClock x = measured();
        for (int which : Scenes.outside(9)) {
            due.call(x.getMeasure(1, which), 0, "getMeasure", 1, which);
            due.call(x.getMeasure(0, which), 0, "getMeasure", 0, which);
            due.call(x.getMeasure(2, which), 0, "getMeasure", 2, which);
            due.call(x.getMeasure(-1, which), 0, "getMeasure", -1, which);
        }
    }

    /** The table of "which", from its first row to its last. */
    private static void answersTheFirstAndTheLastSelector(Due due) {
        GrandClock x = measured();
        due.call(x.getMeasure(1, 0), 4300, "getMeasure", 1, 0);
        due.call(x.getMeasure(1, 8), 1, "getMeasure", 1, 8);
        due.measures(x, 1, 4300, 400, 10000, 14700, 14700, 10800, -2687, -537, 1);
    }

    /** Clock 7 turns best in step 21, clock 0 hears of it in step 28 and is measured from step 29 on. */
    private static void answersOfTheFirstAndTheLastClock(Due due) {
        GrandClock x = Scenes.chain(8, 1);
        x.run(20);
        due.measures(x, 0, 0, 0, 0, 0, 0, 0, 0, 0, 0);
        due.measures(x, 7, 0, 1000, 19000000000L, 19000001000L, 19000001000L, 19000002000L, 0, 0, 19);
        x.setPriority(7, 0, 0);
        x.run(20);
        due.measures(x, 0, 0, 1000, 39000000000L, 39000001000L, 39000001000L, 39000002000L, 0, 0, 12);
    }

    private static void answersZeroBeforeTheFirstMeasurement(Due due) {
        GrandClock x = Scenes.pair(2, 700, 100);
        x.setTime(1, 5000L);
        due.measures(x, 1, 0, 0, 0, 0, 0, 0, 0, 0, 0);
        x.run(1);
        due.measures(x, 1, 0, 0, 0, 0, 0, 0, 0, 0, 0);
    }

    /** "Nothing changes." */
    private static void changesNothing(Due due) {
        GrandClock x = Scenes.busy();
        for (int which : Scenes.outside(9)) {
            for (int c = -1; c <= 5; c++) {
                x.getMeasure(c, which);
            }
        }
        for (int which = 0; which <= 8; which++) {
            for (int c = -1; c <= 5; c++) {
                x.getMeasure(c, which);
            }
        }
        due.twins(x, Scenes.busy(), "getMeasure");
    }
}
