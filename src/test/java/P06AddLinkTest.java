/** Promise 6: addLink. */
public final class P06AddLinkTest {
    public static void main(String[] args) {
        Due due = new Due();
        refusesOtherClocks(due);
        refusesJoinedClocks(due);
        refusesBeyondCapacity(due);
        makesAFreshLink(due);
        keepsEachDelay(due);
        clampsTheDelays(due);
        due.end();
    }

    private static void refusesOtherClocks(Due due) {
        for (int c : Scenes.NO_CLOCKS_OF_FIVE) {
            refused(due, c, 0);
            refused(due, 0, c);
            refused(due, c, c);
        }
        for (int c = 0; c < 5; c++) {
            refused(due, c, c);
        }
    }

    /** Link 6 is down in this scene, and joins 2 and 4 all the same. */
    private static void refusesJoinedClocks(Due due) {
        int[] joined = {0, 1, 1, 2, 2, 3, 3, 4, 4, 0, 1, 3, 2, 4};
        for (int i = 0; i < joined.length; i += 2) {
            refused(due, joined[i], joined[i + 1]);
            refused(due, joined[i + 1], joined[i]);
        }
    }

    private static void refused(Due due, int a, int b) {
        GrandClock x = Scenes.busy();
        due.call(x.addLink(a, b, 10, 20), -1, "addLink", a, b, 10, 20);
        due.twins(x, Scenes.busy(), "a refused addLink");
        due.call(x.addLink(0, 2, 10, 20), 7, "addLink", 0, 2, 10, 20);
    }

    private static void refusesBeyondCapacity(Due due) {
        GrandClock x = Scenes.busy();
        GrandClock twin = Scenes.busy();
        due.call(x.addLink(0, 2, 1, 2), 7, "addLink", 0, 2, 1, 2);
        twin.addLink(0, 2, 1, 2);
        due.call(x.addLink(0, 3, 1, 2), -1, "addLink", 0, 3, 1, 2);
        x.setLinkUp(0, false);
        twin.setLinkUp(0, false);
        due.call(x.addLink(1, 4, 1, 2), -1, "addLink", 1, 4, 1, 2);
        due.twins(x, twin, "addLink beyond the capacity");
    }

    private static void makesAFreshLink(Due due) {
        GrandClock x = Scenes.busy();
        GrandClock before = Scenes.busy();
        due.call(x.addLink(4, 1, 10, 20), 7, "addLink", 4, 1, 10, 20);
        due.states(x, 7, 4, GrandClock.MASTER, 1, GrandClock.MASTER);
        due.cleared(x, 4, 7);
        due.cleared(x, 1, 7);
        for (int c = 0; c < 5; c++) {
            due.follows(x, c, before.getGrandmaster(c), before.getParent(c), before.getStepsRemoved(c));
            due.call(x.getTime(c), before.getTime(c), "getTime", c);
            for (int which = 0; which <= 8; which++) {
                due.call(x.getMeasure(c, which), before.getMeasure(c, which), "getMeasure", c, which);
            }
            for (int field = 0; field <= 9; field++) {
                due.call(x.getAnnounce(c, -1, field), before.getAnnounce(c, -1, field), "getAnnounce", c, -1, field);
            }
        }
        x.run(1);
        due.message(x, 4, 7, 10, 248, 254, 65535, 20, 3, 1, 1);
        due.message(x, 1, 7, 10, 248, 254, 65535, 20, 3, 1, 4);
    }

    private static void keepsEachDelay(Due due) {
        checkDelays(due, 0, 1, 30, 7, 30, 7);
        checkDelays(due, 1, 0, 30, 7, 7, 30);
        checkDelays(due, 6, 7, 500, 0, 500, 0);
        checkDelays(due, 7, 6, 500, 0, 0, 500);
    }

    private static void clampsTheDelays(Due due) {
        int[] given = {Integer.MIN_VALUE, -1, 0, 1, 9999999, 10000000, 10000001, Integer.MAX_VALUE};
        int[] taken = {0, 0, 0, 1, 9999999, 10000000, 10000000, 10000000};
        for (int i = 0; i < given.length; i++) {
            checkDelays(due, 0, 1, given[i], 40, taken[i], 40);
            checkDelays(due, 0, 1, 40, given[i], 40, taken[i]);
        }
    }

    /** The clock of the lower index is the master; down and up are the delays from it and to it. */
    private static void checkDelays(Due due, int a, int b, int dab, int dba, long down, long up) {
        GrandClock x = new GrandClock(8, 2, 2);
        due.call(x.addLink(a, b, dab, dba), 0, "addLink", a, b, dab, dba);
        x.run(2);
        int slave = Math.max(a, b);
        long start = 1000000000L;
        due.call(x.getMeasure(slave, GrandClock.M_T2), start + down, "getMeasure", slave, GrandClock.M_T2);
        due.call(x.getMeasure(slave, GrandClock.M_T4), start + down + up, "getMeasure", slave, GrandClock.M_T4);
    }
}
