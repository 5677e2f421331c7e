/** Objects in states that several tests start from. */
final class Scenes {
    static final int[] NO_CLOCKS_OF_FIVE = {-1, 5, 6, 7, 8, Integer.MIN_VALUE, Integer.MAX_VALUE};

    private Scenes() {
    }

    /** Indices that are not in 0..n-1, some of them indices again when cut to fewer bits or multiplied. */
    static int[] outside(int n) {
        return new int[] {
            Integer.MIN_VALUE, Integer.MIN_VALUE + 1, -65536, -256, -n, -1, n, n + 1,
            256, 65536, 1 << 28, 1 << 30, Integer.MAX_VALUE
        };
    }

    /** A ring of so many clocks (of two, a pair) amid its work, the last one the best. */
    static GrandClock ring(int clocks) {
        GrandClock x = new GrandClock(clocks, 16, 3);
        for (int c = 0; c < clocks; c++) {
            x.addLink(c, (c + 1) % clocks, 1000 + c, 3000);
            x.setDrift(c, 1000 * c - 2500);
            x.setTime(c, 7000L * c);
        }
        x.setPriority(clocks - 1, 5, 6);
        x.run(9);
        return x;
    }

    /** Five clocks with a ring, a chord, a down link, drifts and times, amid their work. */
    static GrandClock busy() {
        GrandClock x = new GrandClock(5, 8, 3);
        x.addLink(0, 1, 3000, 2000);
        x.addLink(1, 2, 5000, 5000);
        x.addLink(2, 3, 4000, 1000);
        x.addLink(3, 4, 2000, 2000);
        x.addLink(4, 0, 7000, 9000);
        x.addLink(1, 3, 6000, 9000);
        x.addLink(2, 4, 100, 200);
        x.setLinkUp(6, false);
        x.setPriority(3, 10, 20);
        x.setQuality(1, 6, 33, 100);
        x.setDrift(0, 40000);
        x.setDrift(2, -25000);
        x.setTime(0, 5000000L);
        x.setTime(2, 700000000000L);
        x.run(9);
        return x;
    }

    /** Two clocks on link 0, of which 0 is the better one, before the first step. */
    static GrandClock pair(int timeout, int d01, int d10) {
        GrandClock x = new GrandClock(2, 1, timeout);
        x.addLink(0, 1, d01, d10);
        return x;
    }

    /** Clock i joined to clock i + 1 by link i, before the first step. */
    static GrandClock chain(int clocks, int timeout) {
        GrandClock x = new GrandClock(clocks, 16, timeout);
        for (int c = 0; c + 1 < clocks; c++) {
            x.addLink(c, c + 1, 1000, 1000);
        }
        return x;
    }

    /** Three clocks, link 0 from 0 to 1, link 1 from 1 to 2, link 2 from 2 to 0, before the first step. */
    static GrandClock triangle(int timeout) {
        GrandClock x = new GrandClock(3, 3, timeout);
        x.addLink(0, 1, 0, 0);
        x.addLink(1, 2, 0, 0);
        x.addLink(2, 0, 0, 0);
        return x;
    }
}
