/** 'What it is': the order of vectors, the cleared store and the arithmetic, at their edges. */
public final class P00EdgesTest {
    private static final long SECOND = 1000000000L;
    private static final long HALF = 1L << 62;

    public static void main(String[] args) throws IllegalAccessException {
        Due due = new Due();
        eachGmFieldDecides(due);
        stepsRemovedDecidesAfterTheGmTuple(due);
        senderDecidesLast(due);
        clearedStoresHaveEveryFieldZero(due);
        advanceWraps(due);
        timesOfAMeasurementWrap(due);
        differencesWrap(due);
        steppingWraps(due);
        due.end();
    }

    /** "The first difference decides, and smaller is better": the later fields say the contrary. */
    private static void eachGmFieldDecides(Due due) {
        for (int field = 0; field < 5; field++) {
            for (int receiver = 0; receiver < 3; receiver++) {
                int first = receiver == 0 ? 1 : 0;
                int second = 3 - receiver - first;
                candidatesDifferFrom(due, field, receiver, first, second);
                candidatesDifferFrom(due, field, receiver, second, first);
            }
        }
        candidatesDifferInIdentity(due, 0, 1, 2);
        candidatesDifferInIdentity(due, 1, 0, 2);
        candidatesDifferInIdentity(due, 2, 0, 1);
    }

    private static void candidatesDifferFrom(Due due, int field, int receiver, int better, int worse) {
        int[] good = {60, 60, 60, 60, 60};
        int[] bad = {60, 60, 60, 60, 60};
        good[field] = 59;
        for (int later = field + 1; later < 5; later++) {
            bad[later] = 0;
        }
        for (int order = 0; order <= 1; order++) {
            GrandClock x = between(receiver, order == 0 ? better : worse, order == 0 ? worse : better);
            setDataset(x, better, good);
            setDataset(x, worse, bad);
            x.run(2);
            due.follows(x, receiver, better, better, 1);
        }
    }

    private static void candidatesDifferInIdentity(Due due, int receiver, int smaller, int larger) {
        for (int order = 0; order <= 1; order++) {
            GrandClock x = between(receiver, order == 0 ? smaller : larger, order == 0 ? larger : smaller);
            setDataset(x, smaller, new int[] {60, 60, 60, 60, 60});
            setDataset(x, larger, new int[] {60, 60, 60, 60, 60});
            x.run(2);
            due.follows(x, receiver, smaller, smaller, 1);
        }
    }

    /** The receiver has a link to each of the two others and is worse than both. */
    private static GrandClock between(int receiver, int first, int second) {
        GrandClock x = new GrandClock(3, 2, 4);
        x.addLink(receiver, first, 0, 0);
        x.addLink(second, receiver, 0, 0);
        setDataset(x, receiver, new int[] {255, 255, 255, 65535, 255});
        return x;
    }

    private static void setDataset(GrandClock x, int c, int[] fields) {
        x.setPriority(c, fields[0], fields[4]);
        x.setQuality(c, fields[1], fields[2], fields[3]);
    }

    /** "The first difference decides": clock 1 hears of 0 from 2 over one step more than from 3, the larger sender. */
    private static void stepsRemovedDecidesAfterTheGmTuple(Due due) {
        GrandClock x = new GrandClock(5, 5, 2);
        x.addLink(2, 1, 0, 0);
        x.addLink(3, 1, 0, 0);
        x.addLink(0, 3, 0, 0);
        x.addLink(0, 4, 0, 0);
        x.addLink(4, 2, 0, 0);
        x.run(30);
        due.follows(x, 2, 0, 4, 2);
        due.follows(x, 3, 0, 0, 1);
        due.follows(x, 1, 0, 3, 2);
    }

    /** "The first difference decides": candidates equal in all but the last field, in both orders of their links. */
    private static void senderDecidesLast(Due due) {
        for (int first = 1; first <= 2; first++) {
            GrandClock x = new GrandClock(4, 4, 2);
            x.addLink(3, first, 0, 0);
            x.addLink(3, 3 - first, 0, 0);
            x.addLink(0, 1, 0, 0);
            x.addLink(0, 2, 0, 0);
            x.run(2);
            due.message(x, 3, first - 1, 128, 248, 254, 65535, 128, 0, 1, 1);
            due.message(x, 3, 2 - first, 128, 248, 254, 65535, 128, 0, 1, 2);
            due.follows(x, 3, 0, 1, 2);
        }
    }

    /** "A cleared store has every field 0", whatever it held before. */
    private static void clearedStoresHaveEveryFieldZero(Due due) {
        GrandClock x = Scenes.pair(2, 0, 0);
        due.cleared(x, 0, 0);
        due.cleared(x, 1, 0);
        x.run(1);
        due.message(x, 0, 0, 128, 248, 254, 65535, 128, 1, 0, 1);
        x.run(2);
        due.cleared(x, 0, 0);
        x.setLinkUp(0, false);
        due.cleared(x, 1, 0);
        x.setLinkUp(0, true);
        due.cleared(x, 1, 0);
    }

    /** "All long arithmetic wraps as in Java": the advance at the last time before the wrap and after it. */
    private static void advanceWraps(Due due) throws IllegalAccessException {
        advanced(due, Long.MAX_VALUE - SECOND, 0, Long.MAX_VALUE);
        advanced(due, Long.MAX_VALUE - SECOND + 1, 0, Long.MIN_VALUE);
        advanced(due, Long.MAX_VALUE - 5, 0, -9223372035854775814L);
        advanced(due, Long.MAX_VALUE, 100000, -9223372035854675809L);
        advanced(due, Long.MAX_VALUE - SECOND, 1, Long.MIN_VALUE);
        advanced(due, Long.MAX_VALUE - SECOND + 1, -1, Long.MAX_VALUE);
        advanced(due, -1L, 0, 999999999L);
    }

    private static void advanced(Due due, long from, int drift, long to) throws IllegalAccessException {
        GrandClock x = new GrandClock(2, 1, 1);
        Inside.setTime(x, 1, from);
        x.setDrift(1, drift);
        due.call(x.getTime(1), from, "getTime", 1);
        x.run(1);
        due.call(x.getTime(1), to, "getTime", 1);
        due.call(x.getTime(0), SECOND, "getTime", 0);
    }

    /** Clock 1 of a settled pair, which follows clock 0, when the two show these times. */
    private static GrandClock showing(int d01, int d10, long time0, long time1) throws IllegalAccessException {
        GrandClock x = Scenes.pair(2, d01, d10);
        x.run(1);
        Inside.setTime(x, 0, time0);
        Inside.setTime(x, 1, time1);
        return x;
    }

    /** "All long arithmetic wraps as in Java": t2 and t4 beyond the last long, and times on both sides of it. */
    private static void timesOfAMeasurementWrap(Due due) throws IllegalAccessException {
        GrandClock late = showing(100, 300, Long.MAX_VALUE - 5, Long.MAX_VALUE - 5);
        late.run(1);
        due.measures(late, 1, -100, 200, Long.MAX_VALUE - 5, -9223372036854775714L, -9223372036854775714L,
            -9223372036854775414L, 62, 12, 1);

        GrandClock across = showing(0, 0, Long.MAX_VALUE - 10, Long.MIN_VALUE + 10);
        across.run(1);
        due.measures(across, 1, 21, 0, Long.MAX_VALUE - 10, Long.MIN_VALUE + 10, Long.MIN_VALUE + 10,
            Long.MAX_VALUE - 10, -12, -2, 1);
        due.call(across.getTime(0), -9223372035854775819L, "getTime", 0);
        due.call(across.getTime(1), -9223372035854775810L, "getTime", 1);
    }

    /** "All long arithmetic wraps as in Java": the offset halves twice the difference, which wraps from 2 to the 62nd on. */
    private static void differencesWrap(Due due) throws IllegalAccessException {
        offsetOf(due, 0L, HALF - 1, HALF - 1);
        offsetOf(due, 0L, HALF, -HALF);
        offsetOf(due, 0L, HALF + 5, -HALF + 5);
        offsetOf(due, HALF, 0L, -HALF);
        offsetOf(due, HALF + 1, 0L, HALF - 1);
        offsetOf(due, 0L, Long.MAX_VALUE, -1L);
        offsetOf(due, 0L, Long.MIN_VALUE, 0L);
        offsetOf(due, Long.MIN_VALUE, Long.MAX_VALUE, -1L);
    }

    private static void offsetOf(Due due, long time0, long time1, long offset) throws IllegalAccessException {
        GrandClock x = showing(0, 0, time0, time1);
        x.run(1);
        due.measures(x, 1, offset, 0, time0, time1, time1, time0);
    }

    /** "All long arithmetic wraps as in Java": the time less the offset. */
    private static void steppingWraps(Due due) throws IllegalAccessException {
        GrandClock x = showing(0, 0, 0L, HALF + 5);
        x.run(1);
        due.call(x.getTime(1), Long.MIN_VALUE + SECOND, "getTime", 1);
        GrandClock unwrapped = showing(0, 0, 0L, HALF - 1);
        unwrapped.run(1);
        due.call(unwrapped.getTime(1), SECOND, "getTime", 1);
    }
}
