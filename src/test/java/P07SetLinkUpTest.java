/** Promise 7: setLinkUp. */
public final class P07SetLinkUpTest {
    public static void main(String[] args) {
        Due due = new Due();
        refusesOtherLinks(due);
        keepsAStateThatStands(due);
        goesDown(due);
        goesUp(due);
        keepsItsDelays(due);
        due.end();
    }

    private static void refusesOtherLinks(Due due) {
        for (int link : new int[] {-1, -2, 7, 8, 15, 16, Integer.MIN_VALUE, Integer.MAX_VALUE}) {
            for (int up = 0; up <= 1; up++) {
                GrandClock x = Scenes.busy();
                due.call(x.setLinkUp(link, up == 1), false, "setLinkUp", link, up);
                due.twins(x, Scenes.busy(), "a refused setLinkUp");
            }
        }
        GrandClock empty = new GrandClock(2, 1, 1);
        due.call(empty.setLinkUp(0, true), false, "setLinkUp", 0, 1);
        due.call(empty.addLink(0, 1, 0, 0), 0, "addLink", 0, 1, 0, 0);
        due.call(empty.setLinkUp(0, true), true, "setLinkUp", 0, 1);
    }

    private static void keepsAStateThatStands(Due due) {
        for (int link = 0; link <= 6; link++) {
            GrandClock x = Scenes.busy();
            boolean up = link != 6;
            due.call(x.setLinkUp(link, up), true, "setLinkUp", link, up ? 1 : 0);
            due.twins(x, Scenes.busy(), "setLinkUp to the state that stands");
        }
    }

    /** Clock 1 follows clock 0 until the step after its only link goes down. */
    private static void goesDown(Due due) {
        GrandClock x = Scenes.chain(3, 4);
        x.run(5);
        due.message(x, 1, 0, 128, 248, 254, 65535, 128, 0, 0, 0);
        due.call(x.setLinkUp(0, false), true, "setLinkUp", 0, 0);
        due.states(x, 0, 0, GrandClock.DISABLED, 1, GrandClock.DISABLED);
        due.cleared(x, 0, 0);
        due.cleared(x, 1, 0);
        due.states(x, 1, 1, GrandClock.MASTER, 2, GrandClock.SLAVE);
        due.message(x, 2, 1, 128, 248, 254, 65535, 128, 0, 1, 1);
        due.follows(x, 1, 0, 0, 1);
        due.message(x, 1, -1, 128, 248, 254, 65535, 128, 0, 1, 1);
        due.call(x.getMeasure(1, GrandClock.M_COUNT), 4, "getMeasure", 1, GrandClock.M_COUNT);
        x.run(1);
        due.follows(x, 1, 1, -1, 0);
        due.call(x.getMeasure(1, GrandClock.M_COUNT), 4, "getMeasure", 1, GrandClock.M_COUNT);
        due.call(x.getMeasure(2, GrandClock.M_COUNT), 5, "getMeasure", 2, GrandClock.M_COUNT);
        due.states(x, 0, 0, GrandClock.DISABLED, 1, GrandClock.DISABLED);
        x.run(20);
        due.states(x, 0, 0, GrandClock.DISABLED, 1, GrandClock.DISABLED);
        due.cleared(x, 0, 0);
        due.cleared(x, 1, 0);
        due.follows(x, 2, 1, 1, 1);
    }

    private static void goesUp(Due due) {
        GrandClock x = Scenes.chain(3, 4);
        x.run(5);
        x.setLinkUp(0, false);
        due.call(x.setLinkUp(0, true), true, "setLinkUp", 0, 1);
        due.states(x, 0, 0, GrandClock.MASTER, 1, GrandClock.MASTER);
        due.cleared(x, 0, 0);
        due.cleared(x, 1, 0);
        due.follows(x, 1, 0, 0, 1);
        x.run(1);
        due.call(x.getMeasure(1, GrandClock.M_COUNT), 4, "getMeasure", 1, GrandClock.M_COUNT);
        due.call(x.getMeasure(2, GrandClock.M_COUNT), 5, "getMeasure", 2, GrandClock.M_COUNT);
        due.follows(x, 1, 0, 0, 1);
        due.states(x, 0, 0, GrandClock.MASTER, 1, GrandClock.SLAVE);
        due.cleared(x, 0, 0);
        x.run(1);
        due.call(x.getMeasure(1, GrandClock.M_COUNT), 5, "getMeasure", 1, GrandClock.M_COUNT);
    }

    private static void keepsItsDelays(Due due) {
        GrandClock x = Scenes.pair(1, 300, 100);
        x.setLinkUp(0, false);
        x.run(3);
        due.call(x.getMeasure(1, GrandClock.M_COUNT), 0, "getMeasure", 1, GrandClock.M_COUNT);
        x.setLinkUp(0, true);
        x.run(2);
        due.measures(x, 1, 100, 200, 4000000000L, 4000000300L, 4000000300L, 4000000400L, -62, -12, 1);
    }
}
