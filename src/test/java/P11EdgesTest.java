/** Promise 11 at its edges: clocks that do not exist, and clocks without a parent. */
public final class P11EdgesTest {
    public static void main(String[] args) {
        Due due = new Due();
        answersMinusOneForAClockThatDoesNotExist(due);
        answersMinusOneWithoutAParent(due);
        answersTheParentOfTheFirstAndTheLastClock(due);
        losesTheParentInAStep(due);
        changesNothing(due);
        due.end();
    }

    /** "answers -1 if c is not in 0..N-1" */
    private static void answersMinusOneForAClockThatDoesNotExist(Due due) {
        for (int n = 2; n <= 8; n++) {
            GrandClock x = Scenes.ring(n);
            for (int c : Scenes.outside(n)) {
                due.call(x.getParent(c), -1, "getParent", c);
            }
            due.call(x.getParent(8), -1, "getParent", 8);
        }
    }

    /** "which is -1 when there is none": at the start, with a link and no step yet, and as the best clock. */
    private static void answersMinusOneWithoutAParent(Due due) {
        GrandClock x = new GrandClock(3, 1, 1);
        due.call(x.getParent(1), -1, "getParent", 1);
        x.addLink(0, 1, 0, 0);
        due.call(x.getParent(1), -1, "getParent", 1);
        x.run(5);
        due.call(x.getParent(0), -1, "getParent", 0);
        due.call(x.getParent(1), 0, "getParent", 1);
        due.call(x.getParent(2), -1, "getParent", 2);
    }

    private static void answersTheParentOfTheFirstAndTheLastClock(Due due) {
        for (int n = 2; n <= 8; n++) {
            GrandClock x = Scenes.chain(n, 1);
            x.run(20);
            due.call(x.getParent(0), -1, "getParent", 0);
            due.call(x.getParent(n - 1), n - 2, "getParent", n - 1);
            x.setPriority(n - 1, 0, 0);
            x.run(20);
            due.call(x.getParent(0), 1, "getParent", 0);
            due.call(x.getParent(n - 1), -1, "getParent", n - 1);
        }
    }

    /** "Otherwise it answers parent(c)", which stays until the step. */
    private static void losesTheParentInAStep(Due due) {
        GrandClock x = Scenes.pair(4, 0, 0);
        x.run(5);
        x.setLinkUp(0, false);
        due.call(x.getParent(1), 0, "getParent", 1);
        x.run(1);
        due.call(x.getParent(1), -1, "getParent", 1);
    }

    /** "Nothing changes." */
    private static void changesNothing(Due due) {
        GrandClock x = Scenes.busy();
        for (int c : Scenes.outside(5)) {
            x.getParent(c);
        }
        for (int c = 0; c < 5; c++) {
            x.getParent(c);
        }
        due.twins(x, Scenes.busy(), "getParent");
    }
}
