/** Promise 3 at its edges: clocks that do not exist, the three clamps, and all that stays. */
public final class P03EdgesTest {
    public static void main(String[] args) {
        Due due = new Due();
        refusesClocksThatDoNotExist(due);
        acceptsTheFirstAndTheLastClock(due);
        clampsTheClass(due);
        clampsTheAccuracy(due);
        clampsTheVariance(due);
        changesNothingElse(due);
        leavesTheVectorToPhase5(due);
        takesTheLastOfSeveralCalls(due);
        due.end();
    }

    /** "is refused when c is not in 0..N-1: it answers false and nothing changes" */
    private static void refusesClocksThatDoNotExist(Due due) {
        for (int n = 2; n <= 8; n++) {
            GrandClock x = Scenes.ring(n);
            for (int c : Scenes.outside(n)) {
                due.call(x.setQuality(c, 0, 0, 0), false, "setQuality", c, 0, 0, 0);
                due.call(x.setQuality(c, -1, 256, 65536), false, "setQuality", c, -1, 256, 65536);
            }
            due.twins(x, Scenes.ring(n), "refused calls of setQuality on " + n + " clocks");
        }
    }

    private static void acceptsTheFirstAndTheLastClock(Due due) {
        for (int n = 2; n <= 8; n++) {
            GrandClock x = new GrandClock(n, 1, 1);
            due.call(x.setQuality(0, 3, 4, 5), true, "setQuality", 0, 3, 4, 5);
            due.call(x.setQuality(n - 1, 6, 7, 8), true, "setQuality", n - 1, 6, 7, 8);
            x.run(1);
            due.ownVector(x, 0, 128, 3, 4, 5, 128);
            due.ownVector(x, n - 1, 128, 6, 7, 8, 128);
        }
    }

    /** Sets the quality of a clock and reads it from its vector after a step. */
    private static void taken(Due due, int cls, int acc, int var, int wantCls, int wantAcc, int wantVar) {
        GrandClock x = new GrandClock(2, 1, 1);
        due.call(x.setQuality(1, cls, acc, var), true, "setQuality", 1, cls, acc, var);
        x.run(1);
        due.ownVector(x, 1, 128, wantCls, wantAcc, wantVar, 128);
    }

    /** "D(c).clockClass = clamp(cls, 0, 255)" */
    private static void clampsTheClass(Due due) {
        taken(due, Integer.MIN_VALUE, 77, 78, 0, 77, 78);
        taken(due, -1, 77, 78, 0, 77, 78);
        taken(due, 0, 77, 78, 0, 77, 78);
        taken(due, 1, 77, 78, 1, 77, 78);
        taken(due, 254, 77, 78, 254, 77, 78);
        taken(due, 255, 77, 78, 255, 77, 78);
        taken(due, 256, 77, 78, 255, 77, 78);
        taken(due, 65536, 77, 78, 255, 77, 78);
        taken(due, Integer.MAX_VALUE, 77, 78, 255, 77, 78);
    }

    /** "D(c).accuracy = clamp(acc, 0, 255)" */
    private static void clampsTheAccuracy(Due due) {
        taken(due, 77, Integer.MIN_VALUE, 78, 77, 0, 78);
        taken(due, 77, -1, 78, 77, 0, 78);
        taken(due, 77, 0, 78, 77, 0, 78);
        taken(due, 77, 1, 78, 77, 1, 78);
        taken(due, 77, 254, 78, 77, 254, 78);
        taken(due, 77, 255, 78, 77, 255, 78);
        taken(due, 77, 256, 78, 77, 255, 78);
        taken(due, 77, 65536, 78, 77, 255, 78);
        taken(due, 77, Integer.MAX_VALUE, 78, 77, 255, 78);
    }

    /** "D(c).variance = clamp(var, 0, 65535)" */
    private static void clampsTheVariance(Due due) {
        taken(due, 77, 78, Integer.MIN_VALUE, 77, 78, 0);
        taken(due, 77, 78, -1, 77, 78, 0);
        taken(due, 77, 78, 0, 77, 78, 0);
        taken(due, 77, 78, 1, 77, 78, 1);
        taken(due, 77, 78, 255, 77, 78, 255);
        taken(due, 77, 78, 256, 77, 78, 256);
        taken(due, 77, 78, 32768, 77, 78, 32768);
        taken(due, 77, 78, 65534, 77, 78, 65534);
        taken(due, 77, 78, 65535, 77, 78, 65535);
        taken(due, 77, 78, 65536, 77, 78, 65535);
        taken(due, 77, 78, Integer.MAX_VALUE, 77, 78, 65535);
    }

    /** "and nothing else changes": what was there before stands again after the way there and back. */
    private static void changesNothingElse(Due due) {
        GrandClock x = Scenes.busy();
        due.call(x.setQuality(1, 255, 0, 65535), true, "setQuality", 1, 255, 0, 65535);
        due.call(x.setQuality(4, 0, 255, 0), true, "setQuality", 4, 0, 255, 0);
        due.same(Seen.state(x), Seen.state(Scenes.busy()), "setQuality before a step");
        x.setQuality(1, 6, 33, 100);
        x.setQuality(4, 248, 254, 65535);
        due.twins(x, Scenes.busy(), "setQuality there and back");
    }

    /** "V(c) is not changed here" */
    private static void leavesTheVectorToPhase5(Due due) {
        GrandClock x = Scenes.pair(4, 0, 0);
        x.run(3);
        due.call(x.setQuality(1, 9, 8, 7), true, "setQuality", 1, 9, 8, 7);
        due.message(x, 1, -1, 128, 248, 254, 65535, 128, 0, 1, 1);
        due.call(x.run(0), 0, "run", 0);
        due.message(x, 1, -1, 128, 248, 254, 65535, 128, 0, 1, 1);
        due.follows(x, 1, 0, 0, 1);
        x.run(1);
        due.ownVector(x, 1, 128, 9, 8, 7, 128);
        due.message(x, 1, 0, 128, 248, 254, 65535, 128, 0, 0, 0);
    }

    private static void takesTheLastOfSeveralCalls(Due due) {
        GrandClock x = new GrandClock(2, 1, 1);
        x.setQuality(0, 1, 2, 3);
        x.setQuality(0, 4, 5, 6);
        due.call(x.setQuality(2, 7, 8, 9), false, "setQuality", 2, 7, 8, 9);
        x.run(1);
        due.ownVector(x, 0, 128, 4, 5, 6, 128);
        due.ownVector(x, 1, 128, 248, 254, 65535, 128);
    }
}
