/** Promise 12 at its edges: clocks that do not exist, and the fewest and the most steps. */
public final class P12EdgesTest {
    public static void main(String[] args) {
        Due due = new Due();
        answersMinusOneForAClockThatDoesNotExist(due);
        answersFromNoStepsToSeven(due);
        answersTheVectorsSteps(due);
        changesNothing(due);
        due.end();
    }

    /** "answers -1 if c is not in 0..N-1" */
    private static void answersMinusOneForAClockThatDoesNotExist(Due due) {
        for (int n = 2; n <= 8; n++) {
            GrandClock x = Scenes.ring(n);
            for (int c : Scenes.outside(n)) {
                due.call(x.getStepsRemoved(c), -1, "getStepsRemoved", c);
            }
            due.call(x.getStepsRemoved(8), -1, "getStepsRemoved", 8);
        }
    }

    private static void answersFromNoStepsToSeven(Due due) {
        for (int n = 2; n <= 8; n++) {
            GrandClock x = Scenes.chain(n, 1);
            for (int c = 0; c < n; c++) {
                due.call(x.getStepsRemoved(c), 0, "getStepsRemoved", c);
            }
            x.run(15);
            for (int c = 0; c < n; c++) {
                due.call(x.getStepsRemoved(c), c, "getStepsRemoved", c);
            }
        }
    }

    /** "the stepsRemoved of V(c)", one more than that of the store it follows. */
    private static void answersTheVectorsSteps(Due due) {
        GrandClock x = Scenes.chain(3, 2);
        x.run(10);
        due.call(x.getAnnounce(2, 1, GrandClock.F_STEPS), 1, "getAnnounce", 2, 1, GrandClock.F_STEPS);
        due.call(x.getStepsRemoved(2), 2, "getStepsRemoved", 2);
        x.setPriority(2, 0, 0);
        due.call(x.getStepsRemoved(2), 2, "getStepsRemoved", 2);
        x.run(1);
        due.call(x.getStepsRemoved(2), 0, "getStepsRemoved", 2);
    }

    /** "Nothing changes." */
    private static void changesNothing(Due due) {
        GrandClock x = Scenes.busy();
        for (int c : Scenes.outside(5)) {
            x.getStepsRemoved(c);
        }
        for (int c = 0; c < 5; c++) {
            x.getStepsRemoved(c);
        }
        due.twins(x, Scenes.busy(), "getStepsRemoved");
    }
}
