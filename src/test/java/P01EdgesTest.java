/** Promise 1 at its edges: each clamp, any int arguments, and the start. */
public final class P01EdgesTest {
    private static final int[] WILD = {
        Integer.MIN_VALUE, Integer.MIN_VALUE + 1, -65536, -8, -1, 0, 256, 65536, 1 << 30, Integer.MAX_VALUE
    };

    public static void main(String[] args) {
        Due due = new Due();
        clampsTheNumberOfClocks(due);
        clampsTheLinkCapacity(due);
        clampsTheTimeout(due);
        acceptsAnyArguments(due);
        hasNoLinksAtTheStart(due);
        startsEveryClock(due);
        startsWithDatasetsInTheOrderOfTheirIdentities(due);
        due.end();
    }

    private static int clocksOf(GrandClock x) {
        int found = 0;
        for (int c = -3; c <= 300; c++) {
            found += x.setDrift(c, 0) ? 1 : 0;
        }
        return found;
    }

    /** How many links it takes, of the pairs of its clocks. */
    private static int linksOf(GrandClock x) {
        int made = 0;
        for (int a = 0; a < 9; a++) {
            for (int b = a + 1; b < 9; b++) {
                made += x.addLink(a, b, 0, 0) >= 0 ? 1 : 0;
            }
        }
        return made;
    }

    /** Clock 1 of the pair on link 0 announces in the first step and never again. */
    private static int timeoutOf(GrandClock x) {
        x.run(1);
        for (int steps = 1; steps <= 9; steps++) {
            x.run(1);
            if (x.getAnnounce(0, 0, GrandClock.F_VALID) == 0) {
                return steps;
            }
        }
        return 0;
    }

    /** "N = clamp(clocks, 2, 8)" */
    private static void clampsTheNumberOfClocks(Due due) {
        int[] given = {1, 2, 3, 4, 5, 6, 7, 8, 9};
        int[] taken = {2, 2, 3, 4, 5, 6, 7, 8, 8};
        for (int i = 0; i < given.length; i++) {
            due.call(clocksOf(new GrandClock(given[i], 1, 1)), taken[i], "clocks of GrandClock", given[i], 1, 1);
        }
    }

    /** "C = clamp(links, 1, 16)" */
    private static void clampsTheLinkCapacity(Due due) {
        int[] given = {0, 1, 2, 3, 15, 16, 17};
        int[] taken = {1, 1, 2, 3, 15, 16, 16};
        for (int i = 0; i < given.length; i++) {
            due.call(linksOf(new GrandClock(8, given[i], 1)), taken[i], "links of GrandClock", 8, given[i], 1);
        }
    }

    /** "T = clamp(timeout, 1, 4)" */
    private static void clampsTheTimeout(Due due) {
        int[] given = {0, 1, 2, 3, 4, 5};
        int[] taken = {1, 1, 2, 3, 4, 4};
        for (int i = 0; i < given.length; i++) {
            due.call(timeoutOf(Scenes.pair(given[i], 0, 0)), taken[i], "timeout of GrandClock", 2, 1, given[i]);
        }
    }

    /** "Any int arguments are accepted, including negative ones and very large ones." */
    private static void acceptsAnyArguments(Due due) {
        for (int clocks : WILD) {
            for (int links : WILD) {
                for (int timeout : WILD) {
                    checkWild(due, clocks, links, timeout);
                }
            }
        }
    }

    private static void checkWild(Due due, int clocks, int links, int timeout) {
        GrandClock x = new GrandClock(clocks, links, timeout);
        int n = clocks > 8 ? 8 : 2;
        int capacity = links > 16 && n == 8 ? 16 : 1;
        due.call(clocksOf(x), n, "clocks of GrandClock", clocks, links, timeout);
        due.call(linksOf(x), capacity, "links of GrandClock", clocks, links, timeout);
        due.call(timeoutOf(x), timeout > 4 ? 4 : 1, "timeout of GrandClock", clocks, links, timeout);
    }

    /** "At the start no links exist." */
    private static void hasNoLinksAtTheStart(Due due) {
        GrandClock x = new GrandClock(8, 16, 2);
        for (int link = -2; link <= 17; link++) {
            due.call(x.setLinkUp(link, true), false, "setLinkUp", link, 1);
            due.call(x.setLinkUp(link, false), false, "setLinkUp", link, 0);
            for (int c = 0; c < 8; c++) {
                due.call(x.getPortState(c, link), GrandClock.NO_PORT, "getPortState", c, link);
                for (int field = 0; field <= 9 && link != -1; field++) {
                    due.call(x.getAnnounce(c, link, field), -1, "getAnnounce", c, link, field);
                }
            }
        }
        due.call(x.addLink(0, 7, 0, 0), 0, "addLink", 0, 7, 0, 0);
    }

    /** "Every clock c has": all the rows of the start, for every number of clocks. */
    private static void startsEveryClock(Due due) {
        for (int n = 2; n <= 8; n++) {
            GrandClock x = new GrandClock(n, 1, 1);
            checkStart(due, x, n, 0L);
            x.run(1);
            checkStart(due, x, n, 1000000000L);
            x.run(64);
            checkStart(due, x, n, 65000000000L);
        }
    }

    /** Without links all stays as it was at the start but the time, to which drift and adjust add 0. */
    private static void checkStart(Due due, GrandClock x, int n, long time) {
        for (int c = 0; c < n; c++) {
            due.ownVector(x, c, 128, 248, 254, 65535, 128);
            due.follows(x, c, c, -1, 0);
            due.call(x.getTime(c), time, "getTime", c);
            due.measures(x, c, 0, 0, 0, 0, 0, 0, 0, 0, 0);
        }
        due.follows(x, n, -1, -1, -1);
    }

    /** "D(c) = (128, 248, 254, 65535, 128, c)": equal in all but the identity. */
    private static void startsWithDatasetsInTheOrderOfTheirIdentities(Due due) {
        GrandClock x = new GrandClock(8, 1, 1);
        for (int a = 0; a < 8; a++) {
            for (int b = 0; b < 8; b++) {
                due.call(x.compareDatasets(a, b), a < b ? -1 : a > b ? 1 : 0, "compareDatasets", a, b);
            }
        }
    }
}
