/** Promise 8 at its edges: the number of steps of run, and the order of the phases. */
public final class P08RunEdgesTest {
    private static final long SECOND = 1000000000L;

    public static void main(String[] args) {
        Due due = new Due();
        clampsAtTheLowerBound(due);
        clampsAtTheUpperBound(due);
        changesNothingInNoSteps(due);
        leavesPendingChangesInNoSteps(due);
        runsAnyNumberOfStepsInPieces(due);
        due.end();
    }

    private static void steps(Due due, int given, int taken) {
        GrandClock x = new GrandClock(2, 1, 1);
        due.call(x.run(given), taken, "run", given);
        due.call(x.getTime(0), taken * SECOND, "getTime", 0);
        due.call(x.getTime(1), taken * SECOND, "getTime", 1);
    }

    /** "n = clamp(steps, 0, MAX_RUN)" */
    private static void clampsAtTheLowerBound(Due due) {
        steps(due, Integer.MIN_VALUE, 0);
        steps(due, Integer.MIN_VALUE + 1, 0);
        steps(due, -65, 0);
        steps(due, -1, 0);
        steps(due, 0, 0);
        steps(due, 1, 1);
    }

    /** "n = clamp(steps, 0, MAX_RUN)" */
    private static void clampsAtTheUpperBound(Due due) {
        steps(due, 63, 63);
        steps(due, 64, 64);
        steps(due, 65, 64);
        steps(due, 256, 64);
        steps(due, 65536, 64);
        steps(due, Integer.MAX_VALUE, 64);
    }

    /** "When n is 0, nothing changes." */
    private static void changesNothingInNoSteps(Due due) {
        for (int n = 2; n <= 8; n++) {
            GrandClock x = Scenes.ring(n);
            due.call(x.run(0), 0, "run", 0);
            due.call(x.run(-1), 0, "run", -1);
            due.call(x.run(Integer.MIN_VALUE), 0, "run", Integer.MIN_VALUE);
            due.twins(x, Scenes.ring(n), "run of no steps on " + n + " clocks");
        }
    }

    /** "When n is 0, nothing changes.": what the next step will take up still waits. */
    private static void leavesPendingChangesInNoSteps(Due due) {
        GrandClock x = changed();
        due.call(x.run(0), 0, "run", 0);
        due.call(x.run(-64), 0, "run", -64);
        due.twins(x, changed(), "run of no steps after changes");
    }

    private static GrandClock changed() {
        GrandClock x = Scenes.busy();
        x.setPriority(0, 1, 2);
        x.setQuality(4, 1, 2, 3);
        x.setTime(1, 4000000000L);
        x.setLinkUp(6, true);
        x.setLinkUp(1, false);
        x.addLink(0, 2, 7, 9);
        return x;
    }

    /** "performs n steps one after another": 64 steps are 1 and 63, and 64 times 1. */
    private static void runsAnyNumberOfStepsInPieces(Due due) {
        GrandClock whole = changed();
        GrandClock two = changed();
        GrandClock single = changed();
        due.call(whole.run(64), 64, "run", 64);
        due.call(two.run(1), 1, "run", 1);
        due.call(two.run(63), 63, "run", 63);
        for (int i = 0; i < 64; i++) {
            due.call(single.run(1), 1, "run", 1);
        }
        due.same(Seen.all(whole), Seen.all(single), "64 steps at once");
        due.twins(two, single, "1 step and 63 steps");
    }
}
