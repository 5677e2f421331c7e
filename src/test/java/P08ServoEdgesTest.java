/** Promise 8, phases 2 and 3 at their edges: the step limit, the divisions, both clamps at both bounds. */
public final class P08ServoEdgesTest {
    private static final long SECOND = 1000000000L;

    public static void main(String[] args) {
        Due due = new Due();
        steersEachMeasuredClock(due);
        steersAtTheStepLimit(due);
        stepsBeyondTheStepLimit(due);
        stepsLeaveAdjustAndIntegral(due);
        dividesTheOffsetByEightTowardZero(due);
        dividesTheOffsetByTwoTowardZero(due);
        clampsTheIntegralAtItsBounds(due);
        clampsTheAdjustAtItsBounds(due);
        usesTheIntegralJustComputed(due);
        keepsAllOfAClockThatIsNotMeasured(due);
        advancesByDriftAndAdjustAtTheirBounds(due);
        due.end();
    }

    /** "This applies to each measured c": the seven clocks round the best one, the first or the last of them. */
    private static void steersEachMeasuredClock(Due due) {
        for (int best = 0; best <= 7; best += 7) {
            GrandClock x = new GrandClock(8, 16, 2);
            x.setPriority(best, 0, 0);
            for (int c = 0; c < 8; c++) {
                x.addLink(best, c, 0, 0);
            }
            x.run(30);
            for (int c = 0; c < 8; c++) {
                x.setTime(c, x.getTime(best) + (c == best ? 0 : 80 + 80 * c));
            }
            x.run(1);
            for (int c = 0; c < 8; c++) {
                long n = c == best ? 0 : 1 + c;
                due.call(x.getMeasure(c, GrandClock.M_INTEGRAL), -10 * n, "getMeasure", c, GrandClock.M_INTEGRAL);
                due.call(x.getMeasure(c, GrandClock.M_ADJUST), -50 * n, "getMeasure", c, GrandClock.M_ADJUST);
                due.call(x.getTime(c), x.getTime(best) + 30 * n, "getTime", c);
            }
        }
    }

    /** Clock 1 of a pair without delays, which follows clock 0 and has not been measured yet. */
    private static GrandClock fresh() {
        GrandClock x = Scenes.pair(2, 0, 0);
        x.setTime(0, 100 * SECOND);
        x.run(1);
        return x;
    }

    /** Runs the step that measures this offset. */
    private static void offset(Due due, GrandClock x, long o) {
        x.setTime(1, x.getTime(0) + o);
        x.run(1);
        due.call(x.getMeasure(1, GrandClock.M_OFFSET), o, "getMeasure", 1, GrandClock.M_OFFSET);
    }

    private static void servo(Due due, GrandClock x, long integral, long adjust) {
        due.call(x.getMeasure(1, GrandClock.M_INTEGRAL), integral, "getMeasure", 1, GrandClock.M_INTEGRAL);
        due.call(x.getMeasure(1, GrandClock.M_ADJUST), adjust, "getMeasure", 1, GrandClock.M_ADJUST);
    }

    /** The time of clock 1 after the step, told from that of clock 0. */
    private static void ahead(Due due, GrandClock x, long ns) {
        due.call(x.getTime(1), x.getTime(0) + ns, "getTime", 1);
    }

    private static void steered(Due due, long o, long integral, long adjust) {
        GrandClock x = fresh();
        offset(due, x, o);
        servo(due, x, integral, adjust);
        ahead(due, x, o + adjust);
    }

    private static void stepped(Due due, long o) {
        GrandClock x = fresh();
        offset(due, x, o);
        servo(due, x, 0, 0);
        ahead(due, x, 0);
    }

    /** "Otherwise:" at STEP_LIMIT and at -STEP_LIMIT, and one inside each. */
    private static void steersAtTheStepLimit(Due due) {
        steered(due, 1000000, -125000, -500000);
        steered(due, -1000000, 125000, 500000);
        steered(due, 999999, -124999, -500000);
        steered(due, -999999, 124999, 500000);
    }

    /** "If o > STEP_LIMIT or o < -STEP_LIMIT, the clock is stepped" */
    private static void stepsBeyondTheStepLimit(Due due) {
        stepped(due, 1000001);
        stepped(due, -1000001);
        stepped(due, 1L << 32);
        stepped(due, -(1L << 32));
        stepped(due, -101 * SECOND);
        stepped(due, GrandClock.MAX_TIME - 101 * SECOND);
    }

    /** "adjust(c) and integral(c) are unchanged." */
    private static void stepsLeaveAdjustAndIntegral(Due due) {
        GrandClock x = fresh();
        offset(due, x, 1000);
        servo(due, x, -125, -625);
        offset(due, x, 1000001);
        servo(due, x, -125, -625);
        ahead(due, x, -625);
        offset(due, x, -1000001);
        servo(due, x, -125, -625);
        ahead(due, x, -625);
    }

    /** "integral(c) - o / 8", where "x / n truncates toward zero". */
    private static void dividesTheOffsetByEightTowardZero(Due due) {
        steered(due, 7, 0, -3);
        steered(due, -7, 0, 3);
        steered(due, 8, -1, -5);
        steered(due, -8, 1, 5);
        steered(due, 9, -1, -5);
        steered(due, -9, 1, 5);
        steered(due, 15, -1, -8);
        steered(due, -15, 1, 8);
        steered(due, 16, -2, -10);
        steered(due, -16, 2, 10);
    }

    /** "integral(c) - o / 2", where "x / n truncates toward zero". */
    private static void dividesTheOffsetByTwoTowardZero(Due due) {
        steered(due, 0, 0, 0);
        steered(due, 1, 0, 0);
        steered(due, -1, 0, 0);
        steered(due, 2, 0, -1);
        steered(due, -2, 0, 1);
        steered(due, 3, 0, -1);
        steered(due, -3, 0, 1);
        steered(due, -5, 0, 2);
    }

    /** Brings the integral to sign * 499999, one inside its bound; each full offset gives it 125000. */
    private static GrandClock almostFull(Due due, int sign) {
        GrandClock x = fresh();
        for (int i = 0; i < 3; i++) {
            offset(due, x, -sign * 1000000L);
        }
        servo(due, x, sign * 375000L, sign * 500000L);
        offset(due, x, -sign * 999992L);
        servo(due, x, sign * 499999L, sign * 500000L);
        return x;
    }

    /** "integral(c) = clamp(integral(c) - o / 8, -MAX_ADJUST, MAX_ADJUST)": one inside, at the bound, and beyond. */
    private static void clampsTheIntegralAtItsBounds(Due due) {
        for (int sign = -1; sign <= 1; sign += 2) {
            GrandClock to = almostFull(due, sign);
            offset(due, to, -sign * 8L);
            servo(due, to, sign * 500000L, sign * 500000L);
            offset(due, to, sign * 8L);
            servo(due, to, sign * 499999L, sign * 499995L);

            GrandClock beyond = almostFull(due, sign);
            offset(due, beyond, -sign * 16L);
            servo(due, beyond, sign * 500000L, sign * 500000L);
            offset(due, beyond, -sign * 1000000L);
            servo(due, beyond, sign * 500000L, sign * 500000L);
            offset(due, beyond, sign * 8L);
            servo(due, beyond, sign * 499999L, sign * 499995L);
        }
    }

    /** "adjust(c) = clamp(integral(c) - o / 2, -MAX_ADJUST, MAX_ADJUST)": one inside, at the bound, and one beyond. */
    private static void clampsTheAdjustAtItsBounds(Due due) {
        for (int sign = -1; sign <= 1; sign += 2) {
            GrandClock below = fresh();
            offset(due, below, -sign * 8L);
            offset(due, below, -sign * 799998L);
            servo(due, below, sign * 100000L, sign * 499999L);
            ahead(due, below, -sign * 799998L + sign * 499999L);
            steered(due, -sign * 800000L, sign * 100000L, sign * 500000L);
            steered(due, -sign * 800002L, sign * 100000L, sign * 500000L);
        }
    }

    /** "using the integral(c) just computed in 1": clamped or not, and never the sum before the clamp. */
    private static void usesTheIntegralJustComputed(Due due) {
        for (int sign = -1; sign <= 1; sign += 2) {
            GrandClock x = fresh();
            offset(due, x, -sign * 80L);
            servo(due, x, sign * 10L, sign * 50L);
            offset(due, x, -sign * 80L);
            servo(due, x, sign * 20L, sign * 60L);
            offset(due, x, sign * 80L);
            servo(due, x, sign * 10L, -sign * 30L);
        }
    }

    /** "Clocks that are not measured keep time, adjust and integral in this phase." */
    private static void keepsAllOfAClockThatIsNotMeasured(Due due) {
        GrandClock x = fresh();
        offset(due, x, 1000);
        x.setLinkUp(0, false);
        for (int step = 1; step <= 4; step++) {
            long before = x.getTime(1);
            x.run(1);
            servo(due, x, -125, -625);
            due.call(x.getTime(1), before + SECOND - 625, "getTime", 1);
        }
        GrandClock slaves = fresh();
        offset(due, slaves, 1000);
        slaves.setLinkUp(0, false);
        slaves.setLinkUp(0, true);
        slaves.setTime(1, 0L);
        slaves.run(1);
        servo(due, slaves, -125, -625);
        due.call(slaves.getTime(1), SECOND - 625, "getTime", 1);
    }

    /** "time(c) = time(c) + NS_PER_STEP + drift(c) + adjust(c)" */
    private static void advancesByDriftAndAdjustAtTheirBounds(Due due) {
        for (int sign = -1; sign <= 1; sign += 2) {
            GrandClock x = fresh();
            x.setDrift(1, sign * 100000);
            offset(due, x, -sign * 1000000L);
            ahead(due, x, sign * (-1000000L + 100000 + 500000));
        }
    }
}
