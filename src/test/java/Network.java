import java.util.Arrays;

/** A GrandClock whose links are written down beside it, so that it can be told how it must settle. */
final class Network {
    final GrandClock x;
    final int clocks;
    final int timeout;
    int links = 0;
    private final int[] endA = new int[16];
    private final int[] endB = new int[16];
    private final int[] delay = new int[16];
    private final boolean[] up = new boolean[16];

    Network(int clocks, int timeout) {
        this.clocks = clocks;
        this.timeout = timeout;
        x = new GrandClock(clocks, 16, timeout);
    }

    /** A link with one delay for both directions, if the clocks can be joined. */
    Network join(int a, int b, int d) {
        int link = x.addLink(a, b, d, d);
        if (link >= 0) {
            endA[link] = a;
            endB[link] = b;
            delay[link] = Math.max(0, Math.min(GrandClock.MAX_DELAY, d));
            up[link] = true;
            links = link + 1;
        }
        return this;
    }

    void setLinkUp(int link, boolean isUp) {
        if (x.setLinkUp(link, isUp)) {
            up[link] = isUp;
        }
    }

    int stepsToSettle() {
        return 7 * timeout + 8;
    }

    /** All that 'Settling' says; the last of it runs one step more. */
    void checkSettled(Due due) {
        for (int c = 0; c < clocks; c++) {
            int best = bestReached(c);
            int[] distance = distances(best);
            int toParent = c == best ? -1 : linkToParent(c, distance);
            int parent = toParent < 0 ? -1 : endA[toParent] + endB[toParent] - c;
            due.follows(x, c, best, parent, distance[c]);
            if (c == best) {
                checkAllMaster(due, c);
            } else {
                due.states(x, toParent, c, GrandClock.SLAVE, parent, GrandClock.MASTER);
            }
        }
        checkNextMeasurement(due);
    }

    int bestReached(int c) {
        int[] distance = distances(c);
        int best = c;
        for (int k = 0; k < clocks; k++) {
            if (distance[k] >= 0 && x.compareDatasets(k, best) < 0) {
                best = k;
            }
        }
        return best;
    }

    /** The hop distances from a clock over up links, -1 where there is no way. */
    private int[] distances(int from) {
        int[] distance = new int[clocks];
        Arrays.fill(distance, -1);
        distance[from] = 0;
        for (int d = 0; d < clocks; d++) {
            for (int link = 0; link < links; link++) {
                int a = distance[endA[link]];
                int b = distance[endB[link]];
                if (up[link] && a == d && b < 0) {
                    distance[endB[link]] = d + 1;
                }
                if (up[link] && b == d && a < 0) {
                    distance[endA[link]] = d + 1;
                }
            }
        }
        return distance;
    }

    /** The link to the smallest neighbour that is one hop nearer. */
    private int linkToParent(int c, int[] distance) {
        int parent = clocks;
        int toParent = -1;
        for (int link = 0; link < links; link++) {
            if (up[link] && (endA[link] == c || endB[link] == c)) {
                int other = endA[link] + endB[link] - c;
                if (distance[other] == distance[c] - 1 && other < parent) {
                    parent = other;
                    toParent = link;
                }
            }
        }
        return toParent;
    }

    private void checkAllMaster(Due due, int c) {
        for (int link = 0; link < links; link++) {
            if (up[link] && (endA[link] == c || endB[link] == c)) {
                due.call(x.getPortState(c, link), GrandClock.MASTER, "getPortState", c, link);
            }
        }
    }

    private void checkNextMeasurement(Due due) {
        long[] ahead = new long[clocks];
        long[] counts = new long[clocks];
        for (int c = 0; c < clocks; c++) {
            ahead[c] = x.getTime(c) - x.getTime(x.getParent(c));
            counts[c] = x.getMeasure(c, GrandClock.M_COUNT);
        }
        x.run(1);
        for (int c = 0; c < clocks; c++) {
            boolean follows = x.getParent(c) >= 0;
            due.call(x.getMeasure(c, GrandClock.M_COUNT), counts[c] + (follows ? 1 : 0), "getMeasure", c, 8);
            if (follows) {
                int link = linkToParent(c, distances(x.getGrandmaster(c)));
                due.measures(x, c, ahead[c], delay[link]);
            }
        }
    }
}
