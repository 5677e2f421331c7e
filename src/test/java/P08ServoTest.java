/** Promise 8, phases 2 and 3: the servo and the advance. */
public final class P08ServoTest {
    private static final long SECOND = 1000000000L;

    public static void main(String[] args) {
        Due due = new Due();
        stepsBeyondTheLimitAlone(due);
        truncatesItsShares(due);
        clampsTheIntegral(due);
        clampsTheAdjust(due);
        keepsItsAdjustWhenStepped(due);
        keepsItsAdjustWhenNotMeasured(due);
        advancesEveryClock(due);
        due.end();
    }

    /** Clock 1 of a pair without delays stands at its second step, ahead of clock 0 by the offset. */
    private static GrandClock ahead(long offset) {
        GrandClock x = Scenes.pair(2, 0, 0);
        x.setTime(0, 100 * SECOND);
        x.run(1);
        x.setTime(1, 101 * SECOND + offset);
        return x;
    }

    private static void checkServo(Due due, long offset, long integral, long adjust, long stepped) {
        GrandClock x = ahead(offset);
        x.run(1);
        due.call(x.getMeasure(1, GrandClock.M_OFFSET), offset, "getMeasure", 1, 0);
        due.call(x.getMeasure(1, GrandClock.M_INTEGRAL), integral, "getMeasure", 1, 7);
        due.call(x.getMeasure(1, GrandClock.M_ADJUST), adjust, "getMeasure", 1, 6);
        due.call(x.getTime(1), 102 * SECOND + offset - stepped + adjust, "getTime", 1);
        due.call(x.getTime(0), 102 * SECOND, "getTime", 0);
    }

    private static void stepsBeyondTheLimitAlone(Due due) {
        checkServo(due, 999999, -124999, -500000, 0);
        checkServo(due, 1000000, -125000, -500000, 0);
        checkServo(due, 1000001, 0, 0, 1000001);
        checkServo(due, -999999, 124999, 500000, 0);
        checkServo(due, -1000000, 125000, 500000, 0);
        checkServo(due, -1000001, 0, 0, -1000001);
        checkServo(due, 40 * SECOND, 0, 0, 40 * SECOND);
        checkServo(due, -40 * SECOND, 0, 0, -40 * SECOND);
    }

    private static void truncatesItsShares(Due due) {
        checkServo(due, 0, 0, 0, 0);
        checkServo(due, 1, 0, 0, 0);
        checkServo(due, -1, 0, 0, 0);
        checkServo(due, 7, 0, -3, 0);
        checkServo(due, -7, 0, 3, 0);
        checkServo(due, 8, -1, -5, 0);
        checkServo(due, -8, 1, 5, 0);
        checkServo(due, 15, -1, -8, 0);
        checkServo(due, -15, 1, 8, 0);
        checkServo(due, 1000, -125, -625, 0);
    }

    /** Five steps of 125000 each would pass the limit of 500000. */
    private static void clampsTheIntegral(Due due) {
        long[] integrals = {125000, 250000, 375000, 500000, 500000, 500000};
        for (int sign = -1; sign <= 1; sign += 2) {
            GrandClock x = ahead(-sign * 1000000L);
            for (long integral : integrals) {
                x.setTime(1, x.getTime(0) - sign * 1000000L);
                x.run(1);
                due.call(x.getMeasure(1, GrandClock.M_INTEGRAL), sign * integral, "getMeasure", 1, 7);
                due.call(x.getMeasure(1, GrandClock.M_ADJUST), sign * 500000L, "getMeasure", 1, 6);
            }
            x.setTime(1, x.getTime(0) + sign * 80L);
            x.run(1);
            due.call(x.getMeasure(1, GrandClock.M_INTEGRAL), sign * 499990L, "getMeasure", 1, 7);
            due.call(x.getMeasure(1, GrandClock.M_ADJUST), sign * 499950L, "getMeasure", 1, 6);
        }
    }

    /** 800000 is the offset from which on the shares 1/8 and 1/2 make up 500000. */
    private static void clampsTheAdjust(Due due) {
        checkServo(due, 799992, -99999, -499995, 0);
        checkServo(due, 800000, -100000, -500000, 0);
        checkServo(due, 800002, -100000, -500000, 0);
        checkServo(due, -799992, 99999, 499995, 0);
        checkServo(due, -800000, 100000, 500000, 0);
        checkServo(due, -800002, 100000, 500000, 0);
    }

    private static void keepsItsAdjustWhenStepped(Due due) {
        GrandClock x = ahead(1000);
        x.run(1);
        x.setTime(1, x.getTime(0) + 7 * SECOND);
        x.run(1);
        due.call(x.getMeasure(1, GrandClock.M_INTEGRAL), -125, "getMeasure", 1, 7);
        due.call(x.getMeasure(1, GrandClock.M_ADJUST), -625, "getMeasure", 1, 6);
        due.call(x.getTime(1), x.getTime(0) - 625, "getTime", 1);
    }

    private static void keepsItsAdjustWhenNotMeasured(Due due) {
        GrandClock x = ahead(1000);
        x.run(1);
        x.setLinkUp(0, false);
        long start = x.getTime(1);
        x.run(3);
        due.call(x.getMeasure(1, GrandClock.M_INTEGRAL), -125, "getMeasure", 1, 7);
        due.call(x.getMeasure(1, GrandClock.M_ADJUST), -625, "getMeasure", 1, 6);
        due.call(x.getTime(1), start + 3 * (SECOND - 625), "getTime", 1);
        x.setTime(1, 0L);
        x.setDrift(1, 25);
        x.run(1);
        due.call(x.getTime(1), SECOND - 600, "getTime", 1);
    }

    private static void advancesEveryClock(Due due) {
        GrandClock x = new GrandClock(8, 1, 1);
        for (int c = 0; c < 8; c++) {
            x.setTime(c, 11L * c);
            x.setDrift(c, 1000 * c - 3000);
        }
        x.run(3);
        for (int c = 0; c < 8; c++) {
            due.call(x.getTime(c), 11L * c + 3 * (SECOND + 1000 * c - 3000), "getTime", c);
        }
        x.setTime(0, GrandClock.MAX_TIME);
        x.setDrift(0, 0);
        x.run(64);
        due.call(x.getTime(0), GrandClock.MAX_TIME + 64 * SECOND, "getTime", 0);
    }
}
