/** Promise 8: the number of steps of run. */
public final class P08RunTest {
    public static void main(String[] args) {
        Due due = new Due();
        clampsTheSteps(due);
        runsStepsOneAfterAnother(due);
        due.end();
    }

    private static void clampsTheSteps(Due due) {
        int[] given = {Integer.MIN_VALUE, -64, -1, 0, 1, 2, 63, 64, 65, 1000, Integer.MAX_VALUE};
        int[] taken = {0, 0, 0, 0, 1, 2, 63, 64, 64, 64, 64};
        for (int i = 0; i < given.length; i++) {
            GrandClock x = new GrandClock(8, 1, 1);
            due.call(x.run(given[i]), taken[i], "run", given[i]);
            due.call(x.getTime(7), 1000000000L * taken[i], "getTime", 7);
            GrandClock busy = Scenes.busy();
            busy.run(given[i]);
            due.twins(busy, busyAndSteps(taken[i]), "run " + given[i]);
        }
    }

    private static void runsStepsOneAfterAnother(Due due) {
        GrandClock x = Scenes.busy();
        due.call(x.run(5), 5, "run", 5);
        due.call(x.run(0), 0, "run", 0);
        due.call(x.run(8), 8, "run", 8);
        due.twins(x, busyAndSteps(13), "5 steps and 8 steps");
    }

    private static GrandClock busyAndSteps(int steps) {
        GrandClock x = Scenes.busy();
        for (int i = 0; i < steps; i++) {
            x.run(1);
        }
        return x;
    }
}
