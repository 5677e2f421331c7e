/**
 * Clocks that keep time together over links, with a best master among them.
 *
 * Default datasets, vectors and stores are all held as rows of one layout in one
 * array, so that sending an announce is copying a row and one comparison serves
 * them all. End 2 * L is the end of link L at its first clock, end 2 * L + 1 the
 * one at its second clock.
 */
public final class GrandClock {
    public static final int NO_PORT = -1;
    public static final int DISABLED = 0;
    public static final int MASTER = 1;
    public static final int SLAVE = 2;
    public static final int PASSIVE = 3;
    public static final int F_VALID = 0;
    public static final int F_GM = 1;
    public static final int F_STEPS = 2;
    public static final int F_AGE = 3;
    public static final int F_SENDER = 4;
    public static final int F_PRIORITY1 = 5;
    public static final int F_CLASS = 6;
    public static final int F_ACCURACY = 7;
    public static final int F_VARIANCE = 8;
    public static final int F_PRIORITY2 = 9;
    public static final int M_OFFSET = 0;
    public static final int M_DELAY = 1;
    public static final int M_T1 = 2;
    public static final int M_T2 = 3;
    public static final int M_T3 = 4;
    public static final int M_T4 = 5;
    public static final int M_ADJUST = 6;
    public static final int M_INTEGRAL = 7;
    public static final int M_COUNT = 8;
    public static final long NS_PER_STEP = 1000000000L;
    public static final long STEP_LIMIT = 1000000L;
    public static final long MAX_ADJUST = 500000L;
    public static final int MAX_DRIFT = 100000;
    public static final int MAX_DELAY = 10000000;
    public static final int MAX_ACCEPT_STEPS = 6;
    public static final int MAX_RUN = 64;
    public static final long MAX_TIME = 1000000000000000000L;

    private static final int NONE = -1;

    private static final int MIN_CLOCKS = 2;
    private static final int MAX_CLOCKS = 8;
    private static final int MIN_LINKS = 1;
    private static final int MAX_LINKS = 16;
    private static final int MAX_ENDS = 2 * MAX_LINKS;
    private static final int MIN_TIMEOUT = 1;
    private static final int MAX_TIMEOUT = 4;

    private static final int MAX_OCTET = 255;
    private static final int MAX_VARIANCE = 65535;

    // The columns of a row stand in the order in which vectors are compared, so
    // that a comparison reads a row from its start.
    private static final int PRIORITY1 = 0;
    private static final int CLOCK_CLASS = 1;
    private static final int ACCURACY = 2;
    private static final int VARIANCE = 3;
    private static final int PRIORITY2 = 4;
    private static final int GM_IDENTITY = 5;
    private static final int STEPS_REMOVED = 6;
    private static final int SENDER = 7;
    private static final int VALID = 8;
    private static final int AGE = 9;

    private static final int GM_COLUMNS = 6;
    private static final int VECTOR_COLUMNS = 8;
    private static final int ROW_COLUMNS = 10;

    // The dataset rows come first, then the vector rows, then the store rows.
    private static final int FIRST_VECTOR = MAX_CLOCKS;
    private static final int FIRST_STORE = 2 * MAX_CLOCKS;
    private static final int ROW_CELLS = (FIRST_STORE + MAX_ENDS) * ROW_COLUMNS;

    private static final int MEASURES = 9;
    private static final int MEASURE_CELLS = MAX_CLOCKS * MEASURES;

    private final int clockCount;
    private final int linkCapacity;
    private final int announceTimeout;
    private int linkCount;

    private final int[] rows = new int[ROW_CELLS];

    private final int[] drift = new int[MAX_CLOCKS];
    private final long[] time = new long[MAX_CLOCKS];
    private final int[] parent = new int[MAX_CLOCKS];
    private final int[] parentLink = new int[MAX_CLOCKS];
    private final long[] measures = new long[MEASURE_CELLS];
    private final boolean[] measured = new boolean[MAX_CLOCKS];

    private final boolean[] linkUp = new boolean[MAX_LINKS];
    private final int[] endClock = new int[MAX_ENDS];
    private final int[] endState = new int[MAX_ENDS];
    // The delay of what leaves an end, on its way to the other end.
    private final int[] endDelay = new int[MAX_ENDS];

    public GrandClock(int clocks, int links, int timeout) {
        clockCount = clamp(clocks, MIN_CLOCKS, MAX_CLOCKS);
        linkCapacity = clamp(links, MIN_LINKS, MAX_LINKS);
        announceTimeout = clamp(timeout, MIN_TIMEOUT, MAX_TIMEOUT);
        linkCount = 0;
        for (int c = 0; c < clockCount; c++) {
            startDataset(c);
            followItself(c);
        }
    }

    public boolean setPriority(int c, int p1, int p2) {
        if (!isClock(c)) {
            return false;
        }
        int own = datasetRow(c);
        rows[own + PRIORITY1] = clamp(p1, 0, MAX_OCTET);
        rows[own + PRIORITY2] = clamp(p2, 0, MAX_OCTET);
        return true;
    }

    public boolean setQuality(int c, int cls, int acc, int var) {
        if (!isClock(c)) {
            return false;
        }
        int own = datasetRow(c);
        rows[own + CLOCK_CLASS] = clamp(cls, 0, MAX_OCTET);
        rows[own + ACCURACY] = clamp(acc, 0, MAX_OCTET);
        rows[own + VARIANCE] = clamp(var, 0, MAX_VARIANCE);
        return true;
    }

    public boolean setDrift(int c, int ppb) {
        if (!isClock(c)) {
            return false;
        }
        drift[c] = clamp(ppb, -MAX_DRIFT, MAX_DRIFT);
        return true;
    }

    public boolean setTime(int c, long t) {
        if (!isClock(c)) {
            return false;
        }
        time[c] = clampLong(t, 0L, MAX_TIME);
        return true;
    }

    public int addLink(int a, int b, int dab, int dba) {
        if (!isClock(a) || !isClock(b) || a == b || areJoined(a, b) || linkCount >= linkCapacity) {
            return NONE;
        }
        int link = linkCount;
        linkCount++;
        int end = firstEnd(link);
        int other = otherEnd(end);
        endClock[end] = a;
        endClock[other] = b;
        endDelay[end] = clamp(dab, 0, MAX_DELAY);
        endDelay[other] = clamp(dba, 0, MAX_DELAY);
        resetLink(link, true);
        return link;
    }

    public boolean setLinkUp(int link, boolean up) {
        if (!isLink(link)) {
            return false;
        }
        if (linkUp[link] != up) {
            resetLink(link, up);
        }
        return true;
    }

    public int run(int steps) {
        int n = clamp(steps, 0, MAX_RUN);
        for (int i = 0; i < n; i++) {
            step();
        }
        return n;
    }

    public int getPortState(int c, int link) {
        int end = endOf(c, link);
        return end == NONE ? NO_PORT : endState[end];
    }

    public int getGrandmaster(int c) {
        return isClock(c) ? rows[vectorRow(c) + GM_IDENTITY] : NONE;
    }

    public int getParent(int c) {
        return isClock(c) ? parent[c] : NONE;
    }

    public int getStepsRemoved(int c) {
        return isClock(c) ? rows[vectorRow(c) + STEPS_REMOVED] : NONE;
    }

    public long getTime(int c) {
        return isClock(c) ? time[c] : 0L;
    }

    public long getMeasure(int c, int which) {
        if (!isClock(c) || which < 0 || which >= MEASURES) {
            return 0L;
        }
        return measures[measureRow(c) + which];
    }

    public int getAnnounce(int c, int link, int field) {
        int column = columnOf(field);
        if (!isClock(c) || column == NONE) {
            return NONE;
        }
        if (link == NONE) {
            return rows[vectorRow(c) + column];
        }
        int end = endOf(c, link);
        return end == NONE ? NONE : rows[storeRow(end) + column];
    }

    public int compareDatasets(int a, int b) {
        if (!isClock(a) || !isClock(b)) {
            return 0;
        }
        int rowA = datasetRow(a);
        int rowB = datasetRow(b);
        return compareRows(rowA, rowB, GM_COLUMNS);
    }

    private static int clamp(int v, int lo, int hi) {
        if (v < lo) {
            return lo;
        }
        return v > hi ? hi : v;
    }

    private static long clampLong(long v, long lo, long hi) {
        if (v < lo) {
            return lo;
        }
        return v > hi ? hi : v;
    }

    private boolean isClock(int c) {
        return c >= 0 && c < clockCount;
    }

    private boolean isLink(int link) {
        return link >= 0 && link < linkCount;
    }

    private static int firstEnd(int link) {
        return 2 * link;
    }

    private static int otherEnd(int end) {
        return end ^ 1;
    }

    private static int linkOf(int end) {
        return end / 2;
    }

    private int endOf(int c, int link) {
        if (!isClock(c) || !isLink(link)) {
            return NONE;
        }
        int end = firstEnd(link);
        int other = otherEnd(end);
        if (endClock[end] == c) {
            return end;
        }
        return endClock[other] == c ? other : NONE;
    }

    private boolean isUpEndOf(int c, int end) {
        return endClock[end] == c && linkUp[linkOf(end)];
    }

    private boolean areJoined(int a, int b) {
        for (int end = 0; end < 2 * linkCount; end++) {
            if (endClock[end] == a && endClock[otherEnd(end)] == b) {
                return true;
            }
        }
        return false;
    }

    private void resetLink(int link, boolean up) {
        linkUp[link] = up;
        int end = firstEnd(link);
        int other = otherEnd(end);
        endState[end] = up ? MASTER : DISABLED;
        endState[other] = up ? MASTER : DISABLED;
        clearStore(end);
        clearStore(other);
    }

    private static int datasetRow(int c) {
        return c * ROW_COLUMNS;
    }

    private static int vectorRow(int c) {
        return (FIRST_VECTOR + c) * ROW_COLUMNS;
    }

    private static int storeRow(int end) {
        return (FIRST_STORE + end) * ROW_COLUMNS;
    }

    private static int measureRow(int c) {
        return c * MEASURES;
    }

    private static int columnOf(int field) {
        switch (field) {
            case F_VALID: return VALID;
            case F_GM: return GM_IDENTITY;
            case F_STEPS: return STEPS_REMOVED;
            case F_AGE: return AGE;
            case F_SENDER: return SENDER;
            case F_PRIORITY1: return PRIORITY1;
            case F_CLASS: return CLOCK_CLASS;
            case F_ACCURACY: return ACCURACY;
            case F_VARIANCE: return VARIANCE;
            case F_PRIORITY2: return PRIORITY2;
            default: return NONE;
        }
    }

    private int compareRows(int x, int y, int columns) {
        for (int i = 0; i < columns; i++) {
            if (rows[x + i] != rows[y + i]) {
                return rows[x + i] < rows[y + i] ? -1 : 1;
            }
        }
        return 0;
    }

    private void copyRow(int from, int to) {
        for (int i = 0; i < ROW_COLUMNS; i++) {
            rows[to + i] = rows[from + i];
        }
    }

    private void clearStore(int end) {
        int store = storeRow(end);
        for (int i = 0; i < ROW_COLUMNS; i++) {
            rows[store + i] = 0;
        }
    }

    // The row is the whole vector (D(c), 0, c), valid and of age 0, so that a clock
    // that follows itself takes it as it stands.
    private void startDataset(int c) {
        int own = datasetRow(c);
        rows[own + PRIORITY1] = 128;
        rows[own + CLOCK_CLASS] = 248;
        rows[own + ACCURACY] = 254;
        rows[own + VARIANCE] = MAX_VARIANCE;
        rows[own + PRIORITY2] = 128;
        rows[own + GM_IDENTITY] = c;
        rows[own + STEPS_REMOVED] = 0;
        rows[own + SENDER] = c;
        rows[own + VALID] = 1;
        rows[own + AGE] = 0;
    }

    // Each phase ends for every clock before the next begins: a clock is measured
    // against times that no servo has touched in this step.
    private void step() {
        for (int c = 0; c < clockCount; c++) {
            measure(c);
        }
        for (int c = 0; c < clockCount; c++) {
            steer(c);
        }
        for (int c = 0; c < clockCount; c++) {
            advance(c);
        }
        for (int end = 0; end < 2 * linkCount; end++) {
            listen(end);
        }
        for (int c = 0; c < clockCount; c++) {
            chooseMaster(c);
        }
    }

    private void measure(int c) {
        int end = endOf(c, parentLink[c]);
        measured[c] = end != NONE && isServed(end);
        if (!measured[c]) {
            return;
        }
        int other = otherEnd(end);
        long masterTime = time[endClock[other]];
        long t1 = masterTime;
        long t2 = time[c] + endDelay[other];
        long t3 = t2;
        long t4 = masterTime + endDelay[other] + endDelay[end];
        int row = measureRow(c);
        measures[row + M_OFFSET] = ((t2 - t1) - (t4 - t3)) / 2;
        measures[row + M_DELAY] = ((t2 - t1) + (t4 - t3)) / 2;
        measures[row + M_T1] = t1;
        measures[row + M_T2] = t2;
        measures[row + M_T3] = t3;
        measures[row + M_T4] = t4;
        measures[row + M_COUNT]++;
    }

    private boolean isServed(int end) {
        return linkUp[linkOf(end)] && endState[end] == SLAVE && endState[otherEnd(end)] == MASTER;
    }

    private void steer(int c) {
        if (!measured[c]) {
            return;
        }
        int row = measureRow(c);
        long offset = measures[row + M_OFFSET];
        if (offset > STEP_LIMIT || offset < -STEP_LIMIT) {
            time[c] = time[c] - offset;
            return;
        }
        long integral = clampLong(measures[row + M_INTEGRAL] - offset / 8, -MAX_ADJUST, MAX_ADJUST);
        measures[row + M_INTEGRAL] = integral;
        measures[row + M_ADJUST] = clampLong(integral - offset / 2, -MAX_ADJUST, MAX_ADJUST);
    }

    private void advance(int c) {
        time[c] = time[c] + NS_PER_STEP + drift[c] + measures[measureRow(c) + M_ADJUST];
    }

    private void listen(int end) {
        if (!linkUp[linkOf(end)]) {
            return;
        }
        int from = otherEnd(end);
        int message = vectorRow(endClock[from]);
        if (endState[from] == MASTER && accepts(endClock[end], message)) {
            // A vector's row is valid, of age 0 and sent by its own clock.
            int store = storeRow(end);
            copyRow(message, store);
        } else {
            ageStore(end);
        }
    }

    private boolean accepts(int receiver, int message) {
        return rows[message + STEPS_REMOVED] <= MAX_ACCEPT_STEPS && rows[message + GM_IDENTITY] != receiver;
    }

    private void ageStore(int end) {
        int store = storeRow(end);
        if (rows[store + VALID] == 0) {
            return;
        }
        rows[store + AGE]++;
        if (rows[store + AGE] == announceTimeout) {
            clearStore(end);
        }
    }

    private void chooseMaster(int c) {
        int best = bestEnd(c);
        if (best == NONE) {
            followItself(c);
            return;
        }
        int own = datasetRow(c);
        int store = storeRow(best);
        if (compareRows(own, store, GM_COLUMNS) < 0) {
            followItself(c);
        } else {
            followEnd(c, best);
        }
    }

    private int bestEnd(int c) {
        int best = NONE;
        int bestStore = 0;
        for (int end = 0; end < 2 * linkCount; end++) {
            int store = storeRow(end);
            if (isUpEndOf(c, end) && rows[store + VALID] == 1) {
                if (best == NONE || compareRows(store, bestStore, VECTOR_COLUMNS) < 0) {
                    best = end;
                    bestStore = store;
                }
            }
        }
        return best;
    }

    private void followItself(int c) {
        int own = datasetRow(c);
        int vector = vectorRow(c);
        copyRow(own, vector);
        parent[c] = NONE;
        parentLink[c] = NONE;
        for (int end = 0; end < 2 * linkCount; end++) {
            if (isUpEndOf(c, end)) {
                endState[end] = MASTER;
            }
        }
    }

    private void followEnd(int c, int best) {
        int store = storeRow(best);
        int vector = vectorRow(c);
        copyRow(store, vector);
        rows[vector + STEPS_REMOVED]++;
        rows[vector + SENDER] = c;
        rows[vector + AGE] = 0;
        parent[c] = rows[store + SENDER];
        parentLink[c] = linkOf(best);
        for (int end = 0; end < 2 * linkCount; end++) {
            if (isUpEndOf(c, end)) {
                int rival = storeRow(end);
                boolean better = rows[rival + VALID] == 1 && compareRows(rival, vector, VECTOR_COLUMNS) < 0;
                endState[end] = better ? PASSIVE : MASTER;
            }
        }
        endState[best] = SLAVE;
    }
}
