/** Promise 9: getPortState. */
public final class P09GetPortStateTest {
    private static final int[] NO_INDICES = {Integer.MIN_VALUE, -2, -1, 16, 1000, Integer.MAX_VALUE};

    public static void main(String[] args) {
        Due due = new Due();
        answersEveryState(due);
        answersNoPort(due);
        changesNothing(due);
        due.end();
    }

    private static void answersEveryState(Due due) {
        GrandClock x = Scenes.triangle(2);
        x.run(6);
        due.states(x, 0, 0, GrandClock.MASTER, 1, GrandClock.SLAVE);
        due.states(x, 1, 1, GrandClock.MASTER, 2, GrandClock.PASSIVE);
        due.states(x, 2, 2, GrandClock.SLAVE, 0, GrandClock.MASTER);
        x.setLinkUp(0, false);
        due.states(x, 0, 0, GrandClock.DISABLED, 1, GrandClock.DISABLED);
    }

    private static void answersNoPort(Due due) {
        GrandClock x = Scenes.triangle(2);
        x.run(6);
        noPort(due, x, 2, 0);
        noPort(due, x, 0, 1);
        noPort(due, x, 1, 2);
        for (int c = 0; c < 3; c++) {
            noPort(due, x, c, 3);
            for (int link : NO_INDICES) {
                noPort(due, x, c, link);
            }
        }
        for (int link = 0; link < 3; link++) {
            noPort(due, x, 3, link);
            for (int c : NO_INDICES) {
                noPort(due, x, c, link);
            }
        }
        GrandClock empty = new GrandClock(8, 16, 1);
        noPort(due, empty, 0, 0);
        noPort(due, empty, 7, 15);
    }

    private static void noPort(Due due, GrandClock x, int c, int link) {
        due.call(x.getPortState(c, link), -1, "getPortState", c, link);
    }

    private static void changesNothing(Due due) {
        GrandClock x = Scenes.busy();
        for (int c = -1; c <= 8; c++) {
            for (int link = -1; link <= 16; link++) {
                x.getPortState(c, link);
            }
        }
        due.twins(x, Scenes.busy(), "getPortState");
    }
}
