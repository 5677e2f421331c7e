import java.util.Arrays;

/** Promise 8, settling: what holds 7 * T + 8 steps after the last change, over thrown networks. */
public final class P08SettlingTest {
    private static final int RUNS = 400;
    private static final int ROUNDS = 4;
    private final Due due = new Due();
    private Dice dice;
    private int clocks;
    private int timeout;
    private int links;
    private final int[] endA = new int[16];
    private final int[] endB = new int[16];
    private final int[] delay = new int[16];
    private final boolean[] up = new boolean[16];
    private GrandClock x;

    public static void main(String[] args) {
        P08SettlingTest test = new P08SettlingTest();
        for (int run = 1; run <= RUNS; run++) {
            test.throwNetwork(run);
        }
        test.due.end();
    }

    private void throwNetwork(int seed) {
        dice = new Dice(1000L + seed);
        clocks = dice.between(2, 8);
        timeout = dice.between(1, 4);
        x = new GrandClock(clocks, 16, timeout);
        links = 0;
        for (int i = dice.between(1, 24); i > 0; i--) {
            throwLink();
        }
        for (int round = 0; round < ROUNDS; round++) {
            change();
            x.run(7 * timeout + 8);
            checkSettled();
            x.run(dice.roll(4));
            checkSettled();
        }
    }

    private void throwLink() {
        int a = dice.roll(clocks);
        int b = dice.roll(clocks);
        int d = dice.roll(50000);
        int link = x.addLink(a, b, d, d);
        if (link >= 0) {
            endA[link] = a;
            endB[link] = b;
            delay[link] = d;
            up[link] = true;
            links = link + 1;
        }
    }

    private void change() {
        for (int i = dice.roll(6); i > 0; i--) {
            int c = dice.roll(clocks);
            x.setPriority(c, dice.between(126, 129), dice.between(126, 129));
            x.setQuality(dice.roll(clocks), dice.between(247, 249), 254, 65535);
            x.setDrift(c, dice.between(-100000, 100000));
            x.setTime(c, dice.roll(2000000000));
            int link = dice.roll(links + 1);
            if (x.setLinkUp(link, i % 3 > 0)) {
                up[link] = i % 3 > 0;
            }
            x.run(dice.roll(5));
        }
    }

    /** The hop distances from a clock over up links, -1 where there is no way. */
    private int[] distances(int from) {
        int[] distance = new int[clocks];
        Arrays.fill(distance, -1);
        distance[from] = 0;
        for (int d = 0; d < clocks; d++) {
            for (int link = 0; link < links; link++) {
                int a = distance[endA[link]];
                int b = distance[endB[link]];
                if (up[link] && a == d && b < 0) {
                    distance[endB[link]] = d + 1;
                }
                if (up[link] && b == d && a < 0) {
                    distance[endA[link]] = d + 1;
                }
            }
        }
        return distance;
    }

    private int bestReached(int c) {
        int[] distance = distances(c);
        int best = c;
        for (int k = 0; k < clocks; k++) {
            if (distance[k] >= 0 && x.compareDatasets(k, best) < 0) {
                best = k;
            }
        }
        return best;
    }

    private void checkSettled() {
        for (int c = 0; c < clocks; c++) {
            int best = bestReached(c);
            int[] distance = distances(best);
            int toParent = c == best ? -1 : linkToParent(c, distance);
            int parent = toParent < 0 ? -1 : endA[toParent] + endB[toParent] - c;
            due.follows(x, c, best, parent, distance[c]);
            if (c == best) {
                checkAllMaster(c);
            } else {
                due.states(x, toParent, c, GrandClock.SLAVE, parent, GrandClock.MASTER);
            }
        }
        checkNextMeasurement();
    }

    /** The link to the smallest neighbour that is one hop nearer. */
    private int linkToParent(int c, int[] distance) {
        int parent = clocks;
        int toParent = -1;
        for (int link = 0; link < links; link++) {
            if (up[link] && (endA[link] == c || endB[link] == c)) {
                int other = endA[link] + endB[link] - c;
                if (distance[other] == distance[c] - 1 && other < parent) {
                    parent = other;
                    toParent = link;
                }
            }
        }
        return toParent;
    }

    private void checkAllMaster(int c) {
        for (int link = 0; link < links; link++) {
            if (up[link] && (endA[link] == c || endB[link] == c)) {
                due.call(x.getPortState(c, link), GrandClock.MASTER, "getPortState", c, link);
            }
        }
    }

    private void checkNextMeasurement() {
        long[] ahead = new long[clocks];
        long[] counts = new long[clocks];
        for (int c = 0; c < clocks; c++) {
            ahead[c] = x.getTime(c) - x.getTime(x.getParent(c));
            counts[c] = x.getMeasure(c, GrandClock.M_COUNT);
        }
        x.run(1);
        for (int c = 0; c < clocks; c++) {
            boolean follows = x.getParent(c) >= 0;
            due.call(x.getMeasure(c, GrandClock.M_COUNT), counts[c] + (follows ? 1 : 0), "getMeasure", c, 8);
            if (follows) {
                int link = linkToParent(c, distances(x.getGrandmaster(c)));
                due.measures(x, c, ahead[c], delay[link]);
            }
        }
    }
}
