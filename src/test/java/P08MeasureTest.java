/** Promise 8, phase 1: who is measured, and what the measurement is. */
public final class P08MeasureTest {
    private static final long SECOND = 1000000000L;

    public static void main(String[] args) {
        Due due = new Due();
        measuresFromTheSecondStep(due);
        usesBothDelays(due);
        truncatesTowardZero(due);
        usesTimesOfTheStartOfTheStep(due);
        readsFarTimes(due);
        keepsTheLastMeasurement(due);
        needsAMasterAtTheOtherEnd(due);
        due.end();
    }

    private static void measuresFromTheSecondStep(Due due) {
        GrandClock x = Scenes.pair(2, 50, 50);
        x.run(1);
        due.measures(x, 1, 0, 0, 0, 0, 0, 0, 0, 0, 0);
        for (int count = 1; count <= 5; count++) {
            x.run(1);
            due.measures(x, 0, 0, 0, 0, 0, 0, 0, 0, 0, 0);
            long t1 = SECOND * count;
            due.measures(x, 1, 0, 50, t1, t1 + 50, t1 + 50, t1 + 100, 0, 0, count);
        }
    }

    private static void usesBothDelays(Due due) {
        GrandClock x = Scenes.pair(2, 700, 100);
        x.run(1);
        x.setTime(0, 10000L);
        x.setTime(1, 14000L);
        x.run(1);
        due.measures(x, 1, 4300, 400, 10000, 14700, 14700, 10800, -2687, -537, 1);

        GrandClock turned = new GrandClock(2, 1, 2);
        turned.addLink(1, 0, 700, 100);
        turned.run(1);
        turned.setTime(0, 10000L);
        turned.setTime(1, 14000L);
        turned.run(1);
        due.measures(turned, 1, 3700, 400, 10000, 14100, 14100, 10800, -2312, -462, 1);
    }

    /** offset is (2 * ahead + down - up) / 2, and pathDelay (down + up) / 2. */
    private static void truncatesTowardZero(Due due) {
        checkOffset(due, 0, 0, 1, 0, 0);
        checkOffset(due, 0, 1, 0, 0, 0);
        checkOffset(due, 3, 0, 1, 2, 0);
        checkOffset(due, -3, 1, 0, -2, 0);
        checkOffset(due, -3, 0, 1, -3, 0);
        checkOffset(due, 3, 1, 0, 3, 0);
        checkOffset(due, -3, 2, 5, -4, 3);
        checkOffset(due, 5, 3, 0, 6, 1);
    }

    private static void checkOffset(Due due, long ahead, int down, int up, long offset, long pathDelay) {
        GrandClock x = Scenes.pair(2, down, up);
        x.run(1);
        x.setTime(1, SECOND + ahead);
        x.run(1);
        due.measures(x, 1, offset, pathDelay);
    }

    /** Clocks 1 and 2 are stepped in one step: 2 is measured against what 1 showed before. */
    private static void usesTimesOfTheStartOfTheStep(Due due) {
        GrandClock x = Scenes.chain(3, 2);
        x.run(3);
        x.setTime(0, 50 * SECOND);
        x.setTime(1, 20 * SECOND);
        x.setTime(2, 90 * SECOND);
        x.run(1);
        due.call(x.getMeasure(1, GrandClock.M_OFFSET), -30 * SECOND, "getMeasure", 1, 0);
        due.call(x.getMeasure(2, GrandClock.M_OFFSET), 70 * SECOND, "getMeasure", 2, 0);
        due.call(x.getMeasure(2, GrandClock.M_T1), 20 * SECOND, "getMeasure", 2, 2);
        due.call(x.getTime(0), 51 * SECOND, "getTime", 0);
        due.call(x.getTime(1), 51 * SECOND, "getTime", 1);
        due.call(x.getTime(2), 21 * SECOND, "getTime", 2);

        GrandClock turned = new GrandClock(3, 2, 2);
        turned.addLink(2, 1, 0, 0);
        turned.addLink(1, 0, 0, 0);
        turned.setPriority(2, 1, 1);
        turned.setPriority(1, 2, 2);
        turned.run(3);
        turned.setTime(2, 50 * SECOND);
        turned.setTime(1, 20 * SECOND);
        turned.setTime(0, 90 * SECOND);
        turned.run(1);
        due.call(turned.getMeasure(0, GrandClock.M_T1), 20 * SECOND, "getMeasure", 0, 2);
        due.call(turned.getTime(0), 21 * SECOND, "getTime", 0);
        due.call(turned.getTime(1), 51 * SECOND, "getTime", 1);
    }

    private static void readsFarTimes(Due due) {
        long far = GrandClock.MAX_TIME;
        GrandClock x = Scenes.pair(2, 10000000, 10000000);
        x.run(1);
        x.setTime(0, far);
        x.setTime(1, 0L);
        x.run(1);
        due.measures(x, 1, -far, 10000000, far, 10000000, 10000000, far + 20000000, 0, 0, 1);
        due.call(x.getTime(1), far + SECOND, "getTime", 1);
        x.setTime(0, 0L);
        x.run(1);
        due.measures(x, 1, far + SECOND, 10000000, 0, far + SECOND + 10000000);
        due.call(x.getTime(1), SECOND, "getTime", 1);
    }

    private static void keepsTheLastMeasurement(Due due) {
        GrandClock x = Scenes.pair(2, 700, 100);
        x.run(3);
        long[] kept = new long[9];
        for (int which = 0; which <= 8; which++) {
            kept[which] = x.getMeasure(1, which);
        }
        due.call(kept[GrandClock.M_COUNT], 2, "getMeasure", 1, GrandClock.M_COUNT);
        x.setLinkUp(0, false);
        x.run(4);
        due.measures(x, 1, kept);
    }

    /** Each clock of the pair holds the other one's older, better vector, so both are slaves. */
    private static void needsAMasterAtTheOtherEnd(Due due) {
        GrandClock x = Scenes.pair(3, 0, 0);
        x.run(1);
        x.setPriority(0, 200, 200);
        x.run(1);
        due.states(x, 0, 0, GrandClock.SLAVE, 1, GrandClock.SLAVE);
        due.call(x.getMeasure(1, GrandClock.M_COUNT), 1, "getMeasure", 1, GrandClock.M_COUNT);
        x.run(1);
        due.states(x, 0, 0, GrandClock.SLAVE, 1, GrandClock.SLAVE);
        due.call(x.getMeasure(0, GrandClock.M_COUNT), 0, "getMeasure", 0, GrandClock.M_COUNT);
        due.call(x.getMeasure(1, GrandClock.M_COUNT), 1, "getMeasure", 1, GrandClock.M_COUNT);
    }
}
