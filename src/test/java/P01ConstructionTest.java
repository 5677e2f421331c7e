/** Promise 1: the three clamped values and the state at the start. */
public final class P01ConstructionTest {
    private static final int[] ARGUMENTS = {
        Integer.MIN_VALUE, -1000, -1, 0, 1, 2, 3, 4, 5, 6, 7, 8, 9, 15, 16, 17, 1000, Integer.MAX_VALUE
    };

    public static void main(String[] args) {
        Due due = new Due();
        for (int argument : ARGUMENTS) {
            clampsClocks(due, argument);
            clampsLinks(due, argument);
            clampsTimeout(due, argument);
        }
        startsFresh(due);
        objectsAreApart(due);
        due.end();
    }

    private static void clampsClocks(Due due, int clocks) {
        GrandClock x = new GrandClock(clocks, 16, 1);
        int n = Math.max(2, Math.min(8, clocks));
        for (int c = -1; c <= 9; c++) {
            boolean exists = c >= 0 && c < n;
            due.call(x.getGrandmaster(c), exists ? c : -1, "getGrandmaster", c);
            due.call(x.setDrift(c, 0), exists, "setDrift", c, 0);
        }
    }

    private static void clampsLinks(Due due, int links) {
        GrandClock x = new GrandClock(8, links, 1);
        int capacity = Math.max(1, Math.min(16, links));
        int made = 0;
        for (int a = 0; a < 8; a++) {
            for (int b = a + 1; b < 8; b++) {
                due.call(x.addLink(a, b, 0, 0), made < capacity ? made : -1, "addLink", a, b, 0, 0);
                made++;
            }
        }
    }

    /** Clock 1 announces once, then becomes a slave and is silent. */
    private static void clampsTimeout(Due due, int timeout) {
        GrandClock x = Scenes.pair(timeout, 0, 0);
        int t = Math.max(1, Math.min(4, timeout));
        for (int age = 0; age <= 5; age++) {
            x.run(1);
            due.call(x.getAnnounce(0, 0, GrandClock.F_VALID), age < t ? 1 : 0, "getAnnounce", 0, 0, 0);
            due.call(x.getAnnounce(0, 0, GrandClock.F_AGE), age < t ? age : 0, "getAnnounce", 0, 0, 3);
        }
    }

    private static void startsFresh(Due due) {
        GrandClock x = new GrandClock(8, 16, 4);
        checkFirstVectors(due, x);
        for (int c = 0; c < 8; c++) {
            due.call(x.getTime(c), 0, "getTime", c);
            due.measures(x, c, 0, 0, 0, 0, 0, 0, 0, 0, 0);
            for (int link = 0; link < 16; link++) {
                due.call(x.getPortState(c, link), GrandClock.NO_PORT, "getPortState", c, link);
                due.call(x.getAnnounce(c, link, 0), -1, "getAnnounce", c, link, 0);
                due.call(x.setLinkUp(link, true), false, "setLinkUp", link, 1);
            }
        }
        x.run(1);
        checkFirstVectors(due, x);
        for (int c = 0; c < 8; c++) {
            due.call(x.getTime(c), 1000000000L, "getTime", c);
        }
    }

    private static void checkFirstVectors(Due due, GrandClock x) {
        for (int c = 0; c < 8; c++) {
            due.follows(x, c, c, -1, 0);
            due.ownVector(x, c, 128, 248, 254, 65535, 128);
            for (int b = 0; b < 8; b++) {
                due.call(x.compareDatasets(c, b), Integer.compare(c, b), "compareDatasets", c, b);
            }
        }
    }

    private static void objectsAreApart(Due due) {
        GrandClock x = new GrandClock(3, 3, 2);
        GrandClock other = Scenes.busy();
        due.twins(x, new GrandClock(3, 3, 2), "an object beside a busy one");
        due.call(other.getGrandmaster(0), 3, "getGrandmaster", 0);
    }
}
