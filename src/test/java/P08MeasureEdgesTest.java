/** Promise 8, phase 1 at its edges: each condition of a measured clock by itself, and the divisions. */
public final class P08MeasureEdgesTest {
    private static final long SECOND = 1000000000L;

    public static void main(String[] args) {
        Due due = new Due();
        needsAParentLink(due);
        needsTheLinkUp(due);
        needsASlaveEnd(due);
        needsAMasterThereAndNotASlave(due);
        needsAMasterThereAndNotAPassiveEnd(due);
        isMeasuredWhenAllHold(due);
        worksOnTheStartOfTheStep(due);
        dividesOddOffsetsTowardZero(due);
        dividesOddDelaysTowardZero(due);
        measuresTheGreatestDelays(due);
        keepsTheLastMeasurementAndItsCount(due);
        due.end();
    }

    private static void count(Due due, GrandClock x, int c, long want) {
        due.call(x.getMeasure(c, GrandClock.M_COUNT), want, "getMeasure", c, GrandClock.M_COUNT);
    }

    /** "parentLink(c) = L with L >= 0": not so for the best clock, one alone, and one that has become the best. */
    private static void needsAParentLink(Due due) {
        GrandClock x = new GrandClock(3, 1, 2);
        x.addLink(0, 1, 5, 9);
        x.run(5);
        due.measures(x, 0, 0, 0, 0, 0, 0, 0, 0, 0, 0);
        due.measures(x, 2, 0, 0, 0, 0, 0, 0, 0, 0, 0);
        count(due, x, 1, 4);
        x.setPriority(1, 0, 0);
        x.run(1);
        due.follows(x, 1, 1, -1, 0);
        count(due, x, 1, 5);
        x.run(20);
        count(due, x, 1, 5);
        count(due, x, 0, 19);
    }

    /** "L is up": parent and vector still tell of the link that went down. */
    private static void needsTheLinkUp(Due due) {
        GrandClock x = Scenes.pair(4, 5, 9);
        x.run(5);
        x.setLinkUp(0, false);
        due.follows(x, 1, 0, 0, 1);
        x.run(1);
        count(due, x, 1, 4);
        due.call(x.getMeasure(1, GrandClock.M_T1), 4 * SECOND, "getMeasure", 1, GrandClock.M_T1);
    }

    /** "c's end of L is SLAVE": the link is up again, and both its ends are masters. */
    private static void needsASlaveEnd(Due due) {
        GrandClock x = Scenes.pair(4, 5, 9);
        x.run(5);
        x.setLinkUp(0, false);
        x.setLinkUp(0, true);
        due.follows(x, 1, 0, 0, 1);
        due.states(x, 0, 0, GrandClock.MASTER, 1, GrandClock.MASTER);
        x.run(1);
        count(due, x, 1, 4);
        due.states(x, 0, 0, GrandClock.MASTER, 1, GrandClock.SLAVE);
        x.run(1);
        count(due, x, 1, 5);
    }

    /** "the other end of L is MASTER": each of the two clocks holds an old, better vector of the other. */
    private static void needsAMasterThereAndNotASlave(Due due) {
        GrandClock x = Scenes.pair(4, 5, 9);
        x.run(1);
        x.setPriority(0, 200, 200);
        x.run(1);
        due.states(x, 0, 0, GrandClock.SLAVE, 1, GrandClock.SLAVE);
        due.follows(x, 0, 1, 1, 1);
        due.follows(x, 1, 0, 0, 1);
        x.run(1);
        count(due, x, 0, 0);
        count(due, x, 1, 1);
    }

    /** "the other end of L is MASTER": clock 1 has lost 0 and follows 2, which holds the better, old vector of 1. */
    private static void needsAMasterThereAndNotAPassiveEnd(Due due) {
        GrandClock x = Scenes.triangle(4);
        x.run(20);
        x.setLinkUp(0, false);
        x.setLinkUp(1, false);
        x.setLinkUp(1, true);
        x.run(1);
        due.states(x, 1, 1, GrandClock.SLAVE, 2, GrandClock.PASSIVE);
        due.follows(x, 1, 0, 2, 2);
        count(due, x, 1, 19);
        x.run(1);
        due.states(x, 1, 1, GrandClock.SLAVE, 2, GrandClock.PASSIVE);
        count(due, x, 1, 19);
        count(due, x, 2, 21);
    }

    /** "A clock c is measured when all of these hold": as soon as they do. */
    private static void isMeasuredWhenAllHold(Due due) {
        GrandClock x = Scenes.pair(1, 5, 9);
        x.run(1);
        due.states(x, 0, 0, GrandClock.MASTER, 1, GrandClock.SLAVE);
        count(due, x, 1, 0);
        x.run(1);
        count(due, x, 1, 1);
    }

    /** "This phase works on the values at the start of the step.": the step that ends them still measures. */
    private static void worksOnTheStartOfTheStep(Due due) {
        GrandClock x = Scenes.pair(1, 0, 0);
        x.run(2);
        x.setPriority(1, 0, 0);
        x.setTime(1, 9 * SECOND);
        x.run(1);
        due.states(x, 0, 0, GrandClock.MASTER, 1, GrandClock.MASTER);
        count(due, x, 1, 2);
        due.call(x.getTime(1), 3 * SECOND, "getTime", 1);
    }

    /** The clock is ahead of its master by the first number; the offset is (2 * ahead + down - up) / 2. */
    private static void measured(Due due, long ahead, int down, int up, long offset, long pathDelay) {
        GrandClock x = Scenes.pair(2, down, up);
        x.run(1);
        x.setTime(1, SECOND + ahead);
        x.run(1);
        due.measures(x, 1, offset, pathDelay, SECOND, SECOND + ahead + down, SECOND + ahead + down, SECOND + down + up);
    }

    /** "x / n truncates toward zero" */
    private static void dividesOddOffsetsTowardZero(Due due) {
        measured(due, 0, 0, 1, 0, 0);
        measured(due, 0, 0, 3, -1, 1);
        measured(due, 0, 0, 5, -2, 2);
        measured(due, -1, 0, 1, -1, 0);
        measured(due, -1, 1, 0, 0, 0);
        measured(due, -2, 1, 0, -1, 0);
        measured(due, 0, 1, 0, 0, 0);
        measured(due, 0, 3, 0, 1, 1);
        measured(due, 1, 0, 1, 0, 0);
        measured(due, 1, 1, 0, 1, 0);
        measured(due, -SECOND, 1, 0, -999999999, 0);
        measured(due, -SECOND, 0, 1, -1000000000, 0);
    }

    /** "x / n truncates toward zero" */
    private static void dividesOddDelaysTowardZero(Due due) {
        measured(due, 0, 0, 0, 0, 0);
        measured(due, 0, 1, 1, 0, 1);
        measured(due, 0, 1, 2, 0, 1);
        measured(due, 0, 2, 2, 0, 2);
        measured(due, 0, 9999999, 10000000, 0, 9999999);
    }

    private static void measuresTheGreatestDelays(Due due) {
        measured(due, 0, 10000000, 0, 5000000, 5000000);
        measured(due, 0, 0, 10000000, -5000000, 5000000);
        measured(due, 0, 10000000, 10000000, 0, 10000000);
    }

    /** "A clock that is not measured keeps its previous measurement and count." */
    private static void keepsTheLastMeasurementAndItsCount(Due due) {
        GrandClock x = Scenes.pair(2, 700, 100);
        x.run(1);
        x.setTime(0, 10000L);
        x.setTime(1, 14000L);
        x.run(1);
        x.setLinkUp(0, false);
        for (int step = 0; step < 5; step++) {
            due.measures(x, 1, 4300, 400, 10000, 14700, 14700, 10800, -2687, -537, 1);
            x.run(1);
        }
        x.setLinkUp(0, true);
        x.run(1);
        due.measures(x, 1, 4300, 400, 10000, 14700, 14700, 10800, -2687, -537, 1);
        x.run(1);
        count(due, x, 1, 2);
    }
}
