import java.util.ArrayList;
import java.util.List;

/** Promise 6 at its edges: each of the five tests by itself, both clamps, and the new link. */
public final class P06EdgesTest {
    private static final long SECOND = 1000000000L;

    public static void main(String[] args) {
        Due due = new Due();
        refusesForTheFirstClock(due);
        refusesForTheSecondClock(due);
        refusesAClockWithItself(due);
        refusesJoinedClocksEitherWayRound(due);
        refusesClocksJoinedByADownLink(due);
        refusesTheLinkBeyondTheCapacity(due);
        refusesForSeveralReasons(due);
        countsAcceptedLinksAlone(due);
        clampsTheDelayThere(due);
        clampsTheDelayBack(due);
        makesMastersWithClearedStores(due);
        touchesNothingElse(due);
        due.end();
    }

    /** "The first test that fails answers -1, and nothing changes": afterwards the next link is link n of n. */
    private static void refused(Due due, int n, int a, int b) {
        GrandClock x = Scenes.ring(n);
        due.call(x.addLink(a, b, 50, 60), -1, "addLink", a, b, 50, 60);
        due.twins(x, Scenes.ring(n), "a refused addLink on " + n + " clocks");
        if (n > 3) {
            due.call(x.addLink(0, 2, 50, 60), n, "addLink", 0, 2, 50, 60);
        }
    }

    /** "a is in 0..N-1." */
    private static void refusesForTheFirstClock(Due due) {
        for (int a : Scenes.outside(8)) {
            refused(due, 8, a, 2);
        }
        for (int n = 2; n <= 7; n++) {
            refused(due, n, -1, 1);
            refused(due, n, n, 1);
            refused(due, n, 8, 1);
        }
    }

    /** "b is in 0..N-1." */
    private static void refusesForTheSecondClock(Due due) {
        for (int b : Scenes.outside(8)) {
            refused(due, 8, 2, b);
        }
        for (int n = 2; n <= 7; n++) {
            refused(due, n, 1, -1);
            refused(due, n, 1, n);
            refused(due, n, 1, 8);
        }
    }

    /** "a != b." */
    private static void refusesAClockWithItself(Due due) {
        for (int c = 0; c < 8; c++) {
            refused(due, 8, c, c);
        }
        GrandClock empty = new GrandClock(8, 16, 1);
        due.call(empty.addLink(0, 0, 0, 0), -1, "addLink", 0, 0, 0, 0);
        due.call(empty.addLink(7, 7, 0, 0), -1, "addLink", 7, 7, 0, 0);
        due.call(empty.addLink(0, 1, 0, 0), 0, "addLink", 0, 1, 0, 0);
    }

    /** "No link, up or down, already joins a and b, either way round." */
    private static void refusesJoinedClocksEitherWayRound(Due due) {
        for (int c = 0; c < 8; c++) {
            refused(due, 8, c, (c + 1) % 8);
            refused(due, 8, (c + 1) % 8, c);
        }
        refused(due, 2, 0, 1);
        refused(due, 2, 1, 0);
    }

    /** "No link, up or down, already joins a and b": the link is down, and up again. */
    private static void refusesClocksJoinedByADownLink(Due due) {
        GrandClock x = Scenes.ring(4);
        GrandClock twin = Scenes.ring(4);
        x.setLinkUp(1, false);
        twin.setLinkUp(1, false);
        due.call(x.addLink(1, 2, 50, 60), -1, "addLink", 1, 2, 50, 60);
        due.call(x.addLink(2, 1, 50, 60), -1, "addLink", 2, 1, 50, 60);
        due.call(x.getPortState(1, 1), GrandClock.DISABLED, "getPortState", 1, 1);
        due.twins(x, twin, "addLink between the clocks of a down link");
        x.setLinkUp(1, true);
        due.call(x.addLink(2, 1, 50, 60), -1, "addLink", 2, 1, 50, 60);
        due.call(x.addLink(1, 3, 50, 60), 4, "addLink", 1, 3, 50, 60);
    }

    /** "Fewer than C links exist.": for every capacity, with C - 1 links there and with C. */
    private static void refusesTheLinkBeyondTheCapacity(Due due) {
        for (int capacity = 1; capacity <= 16; capacity++) {
            GrandClock x = filled(capacity);
            due.call(x.addLink(6, 7, 1, 2), -1, "addLink", 6, 7, 1, 2);
            due.twins(x, filled(capacity), "addLink with " + capacity + " links there");
            x.setLinkUp(0, false);
            due.call(x.addLink(6, 7, 1, 2), -1, "addLink", 6, 7, 1, 2);
            GrandClock almost = filled(capacity - 1, capacity);
            due.call(almost.addLink(6, 7, 1, 2), capacity - 1, "addLink", 6, 7, 1, 2);
        }
    }

    private static GrandClock filled(int capacity) {
        return filled(capacity, capacity);
    }

    /** So many links, none of them between 6 and 7. */
    private static GrandClock filled(int links, int capacity) {
        GrandClock x = new GrandClock(8, capacity, 2);
        int made = 0;
        for (int a = 0; a < 6; a++) {
            for (int b = a + 1; b < 8 && made < links; b++) {
                x.addLink(a, b, 10, 20);
                made++;
            }
        }
        return x;
    }

    /** "tests the following in this order": whichever fails first, the answer is one and the same. */
    private static void refusesForSeveralReasons(Due due) {
        GrandClock x = filled(1);
        int[] pairs = {-1, -1, -1, 8, 8, 8, 8, 0, 0, 8, 3, 3, 0, 1, 1, 0, Integer.MIN_VALUE, Integer.MAX_VALUE};
        for (int i = 0; i < pairs.length; i += 2) {
            due.call(x.addLink(pairs[i], pairs[i + 1], -1, -1), -1, "addLink", pairs[i], pairs[i + 1], -1, -1);
        }
        due.twins(x, filled(1), "calls of addLink that fail several tests");
    }

    /** "L is the number of links that existed before this call", refused calls and down links or not. */
    private static void countsAcceptedLinksAlone(Due due) {
        GrandClock x = new GrandClock(8, 16, 1);
        int next = 0;
        for (int a = 0; a < 3; a++) {
            for (int b = 7; b > 2 && next < 15; b--) {
                due.call(x.addLink(a, a, 0, 0), -1, "addLink", a, a, 0, 0);
                due.call(x.addLink(a, b, 0, 0), next, "addLink", a, b, 0, 0);
                due.call(x.addLink(b, a, 0, 0), -1, "addLink", b, a, 0, 0);
                x.setLinkUp(next, false);
                next++;
            }
        }
        due.call(x.addLink(0, 1, 0, 0), 15, "addLink", 0, 1, 0, 0);
        due.call(x.addLink(0, 2, 0, 0), -1, "addLink", 0, 2, 0, 0);
    }

    /** Clock 0 is the master of clock 1; the link is made in both directions. */
    private static void delays(Due due, int given01, int given10, long d01, long d10) {
        GrandClock there = new GrandClock(2, 1, 2);
        GrandClock back = new GrandClock(2, 1, 2);
        there.addLink(0, 1, given01, given10);
        back.addLink(1, 0, given10, given01);
        there.run(2);
        back.run(2);
        long offset = (d01 - d10) / 2;
        due.measures(there, 1, offset, (d01 + d10) / 2, SECOND, SECOND + d01, SECOND + d01, SECOND + d01 + d10);
        due.measures(back, 1, offset, (d01 + d10) / 2, SECOND, SECOND + d01, SECOND + d01, SECOND + d01 + d10);
    }

    /** "d(a->b) = clamp(dab, 0, MAX_DELAY)" */
    private static void clampsTheDelayThere(Due due) {
        delays(due, Integer.MIN_VALUE, 40, 0, 40);
        delays(due, -1, 40, 0, 40);
        delays(due, 0, 40, 0, 40);
        delays(due, 1, 40, 1, 40);
        delays(due, 9999999, 40, 9999999, 40);
        delays(due, 10000000, 40, 10000000, 40);
        delays(due, 10000001, 40, 10000000, 40);
        delays(due, Integer.MAX_VALUE, 40, 10000000, 40);
    }

    /** "d(b->a) = clamp(dba, 0, MAX_DELAY)" */
    private static void clampsTheDelayBack(Due due) {
        delays(due, 40, Integer.MIN_VALUE, 40, 0);
        delays(due, 40, -1, 40, 0);
        delays(due, 40, 0, 40, 0);
        delays(due, 40, 1, 40, 1);
        delays(due, 40, 9999999, 40, 9999999);
        delays(due, 40, 10000000, 40, 10000000);
        delays(due, 40, 10000001, 40, 10000000);
        delays(due, 40, Integer.MAX_VALUE, 40, 10000000);
        delays(due, Integer.MAX_VALUE, Integer.MAX_VALUE, 10000000, 10000000);
        delays(due, Integer.MIN_VALUE, Integer.MIN_VALUE, 0, 0);
    }

    /** "has both ends MASTER, each with a cleared store", though both clocks are slaves elsewhere. */
    private static void makesMastersWithClearedStores(Due due) {
        GrandClock x = Scenes.ring(6);
        due.that(x.getParent(1) >= 0 && x.getParent(3) >= 0, "clocks 1 and 3 follow others");
        due.call(x.addLink(3, 1, 50, 60), 6, "addLink", 3, 1, 50, 60);
        due.states(x, 6, 3, GrandClock.MASTER, 1, GrandClock.MASTER);
        due.cleared(x, 3, 6);
        due.cleared(x, 1, 6);
        due.call(x.getPortState(2, 6), GrandClock.NO_PORT, "getPortState", 2, 6);
        due.call(x.setLinkUp(6, true), true, "setLinkUp", 6, 1);
        due.states(x, 6, 3, GrandClock.MASTER, 1, GrandClock.MASTER);
    }

    /** "Nothing else changes: no parent, vector or clock value is touched." */
    private static void touchesNothingElse(Due due) {
        GrandClock x = Scenes.busy();
        GrandClock twin = Scenes.busy();
        x.addLink(0, 2, 50, 60);
        due.same(withoutLink7(x), withoutLink7(twin), "addLink");
        x.setLinkUp(7, false);
        for (int step = 1; step <= 6; step++) {
            x.run(1);
            twin.run(1);
            due.same(withoutLink7(x), withoutLink7(twin), "addLink and the link down, step " + step);
        }
    }

    private static List<String> withoutLink7(GrandClock x) {
        List<String> lines = new ArrayList<>();
        for (String line : Seen.all(x)) {
            boolean of7 = line.matches("getPortState\\(.*, 7\\).*|getAnnounce\\(.*, 7, .*");
            if (!of7) {
                lines.add(line);
            }
        }
        return lines;
    }
}
