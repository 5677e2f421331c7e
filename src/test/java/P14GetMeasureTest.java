/** Promise 14: getMeasure. */
public final class P14GetMeasureTest {
    public static void main(String[] args) {
        Due due = new Due();
        answersEachMeasure(due);
        answersZero(due);
        changesNothing(due);
        due.end();
    }

    /** Nine different numbers, so that no selector can stand for another but t3 for t2. */
    private static GrandClock measured() {
        GrandClock x = Scenes.pair(2, 700, 100);
        x.run(1);
        x.setTime(0, 10000L);
        x.setTime(1, 14000L);
        x.run(1);
        return x;
    }

    private static void answersEachMeasure(Due due) {
        GrandClock x = measured();
        due.call(x.getMeasure(1, GrandClock.M_OFFSET), 4300, "getMeasure", 1, 0);
        due.call(x.getMeasure(1, GrandClock.M_DELAY), 400, "getMeasure", 1, 1);
        due.call(x.getMeasure(1, GrandClock.M_T1), 10000, "getMeasure", 1, 2);
        due.call(x.getMeasure(1, GrandClock.M_T2), 14700, "getMeasure", 1, 3);
        due.call(x.getMeasure(1, GrandClock.M_T3), 14700, "getMeasure", 1, 4);
        due.call(x.getMeasure(1, GrandClock.M_T4), 10800, "getMeasure", 1, 5);
        due.call(x.getMeasure(1, GrandClock.M_ADJUST), -2687, "getMeasure", 1, 6);
        due.call(x.getMeasure(1, GrandClock.M_INTEGRAL), -537, "getMeasure", 1, 7);
        due.call(x.getMeasure(1, GrandClock.M_COUNT), 1, "getMeasure", 1, 8);
        due.measures(x, 0, 0, 0, 0, 0, 0, 0, 0, 0, 0);
    }

    private static void answersZero(Due due) {
        GrandClock x = measured();
        for (int which : new int[] {Integer.MIN_VALUE, -9, -1, 9, 10, 100, Integer.MAX_VALUE}) {
            for (int c = -1; c <= 2; c++) {
                due.call(x.getMeasure(c, which), 0, "getMeasure", c, which);
            }
        }
        for (int c : new int[] {Integer.MIN_VALUE, -1, 2, 3, 8, Integer.MAX_VALUE}) {
            due.measures(x, c, 0, 0, 0, 0, 0, 0, 0, 0, 0);
        }
    }

    private static void changesNothing(Due due) {
        GrandClock x = Scenes.busy();
        for (int c = -1; c <= 8; c++) {
            for (int which = -1; which <= 9; which++) {
                x.getMeasure(c, which);
            }
        }
        due.twins(x, Scenes.busy(), "getMeasure");
    }
}
