/** Promise 9 at its edges: each of the three cases of NO_PORT by itself, and each state. */
public final class P09EdgesTest {
    public static void main(String[] args) {
        Due due = new Due();
        answersNoPortForAClockThatDoesNotExist(due);
        answersNoPortForALinkThatDoesNotExist(due);
        answersNoPortForAClockOfAnotherLink(due);
        answersEachState(due);
        changesNothing(due);
        due.end();
    }

    private static void noPort(Due due, GrandClock x, int c, int link) {
        due.call(x.getPortState(c, link), GrandClock.NO_PORT, "getPortState", c, link);
    }

    /** "c is not in 0..N-1" */
    private static void answersNoPortForAClockThatDoesNotExist(Due due) {
        for (int n = 2; n <= 8; n++) {
            GrandClock x = Scenes.ring(n);
            for (int c : Scenes.outside(n)) {
                for (int link = 0; link < n; link++) {
                    noPort(due, x, c, link);
                }
                noPort(due, x, c, c);
            }
        }
    }

    /** "link is not an existing link index" */
    private static void answersNoPortForALinkThatDoesNotExist(Due due) {
        for (int n = 3; n <= 8; n++) {
            GrandClock x = Scenes.ring(n);
            for (int c = 0; c < n; c++) {
                for (int link : Scenes.outside(n)) {
                    noPort(due, x, c, link);
                }
                noPort(due, x, c, 15);
                noPort(due, x, c, 16);
            }
        }
        GrandClock empty = new GrandClock(2, 16, 1);
        noPort(due, empty, 0, 0);
        noPort(due, empty, 1, 0);
        noPort(due, empty, 0, -1);
    }

    /** "c is not a clock of link", whether the link is up or down. */
    private static void answersNoPortForAClockOfAnotherLink(Due due) {
        GrandClock x = Scenes.ring(8);
        x.setLinkUp(3, false);
        for (int link = 0; link < 8; link++) {
            for (int c = 0; c < 8; c++) {
                boolean joined = c == link || c == (link + 1) % 8;
                due.that((x.getPortState(c, link) == GrandClock.NO_PORT) == !joined, c + " is a clock of " + link);
            }
        }
    }

    /** "the state of c's end of link: DISABLED, MASTER, SLAVE or PASSIVE" */
    private static void answersEachState(Due due) {
        GrandClock x = Scenes.triangle(2);
        due.states(x, 1, 1, GrandClock.MASTER, 2, GrandClock.MASTER);
        x.run(10);
        due.call(x.getPortState(2, 2), GrandClock.SLAVE, "getPortState", 2, 2);
        due.call(x.getPortState(2, 1), GrandClock.PASSIVE, "getPortState", 2, 1);
        due.call(x.getPortState(1, 1), GrandClock.MASTER, "getPortState", 1, 1);
        x.setLinkUp(1, false);
        due.states(x, 1, 1, GrandClock.DISABLED, 2, GrandClock.DISABLED);
    }

    /** "Nothing changes." */
    private static void changesNothing(Due due) {
        GrandClock x = Scenes.busy();
        for (int c : Scenes.outside(5)) {
            for (int link : Scenes.outside(7)) {
                x.getPortState(c, link);
                x.getPortState(0, link);
            }
            x.getPortState(c, 0);
        }
        for (int c = 0; c < 5; c++) {
            for (int link = 0; link < 7; link++) {
                x.getPortState(c, link);
            }
        }
        due.twins(x, Scenes.busy(), "getPortState");
    }
}
