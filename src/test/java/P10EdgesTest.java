/** Promise 10 at its edges: clocks that do not exist, and the first and the last that do. */
public final class P10EdgesTest {
    public static void main(String[] args) {
        Due due = new Due();
        answersMinusOneForAClockThatDoesNotExist(due);
        answersTheFirstAndTheLastClock(due);
        answersTheVectorsIdentity(due);
        changesNothing(due);
        due.end();
    }

    /** "answers -1 if c is not in 0..N-1" */
    private static void answersMinusOneForAClockThatDoesNotExist(Due due) {
        for (int n = 2; n <= 8; n++) {
            GrandClock x = Scenes.ring(n);
            for (int c : Scenes.outside(n)) {
                due.call(x.getGrandmaster(c), -1, "getGrandmaster", c);
            }
            due.call(x.getGrandmaster(8), -1, "getGrandmaster", 8);
        }
    }

    private static void answersTheFirstAndTheLastClock(Due due) {
        for (int n = 2; n <= 8; n++) {
            GrandClock x = new GrandClock(n, 1, 1);
            due.call(x.getGrandmaster(0), 0, "getGrandmaster", 0);
            due.call(x.getGrandmaster(n - 1), n - 1, "getGrandmaster", n - 1);
            GrandClock settled = Scenes.ring(n);
            settled.run(40);
            due.call(settled.getGrandmaster(0), n - 1, "getGrandmaster", 0);
            due.call(settled.getGrandmaster(n - 1), n - 1, "getGrandmaster", n - 1);
        }
    }

    /** "grandmaster(c) is the identity field of the gm tuple of V(c)", not the best of the datasets. */
    private static void answersTheVectorsIdentity(Due due) {
        GrandClock x = Scenes.pair(2, 0, 0);
        due.call(x.getGrandmaster(1), 1, "getGrandmaster", 1);
        x.run(1);
        due.call(x.getGrandmaster(1), 0, "getGrandmaster", 1);
        due.call(x.getGrandmaster(1), x.getAnnounce(1, -1, GrandClock.F_GM), "getGrandmaster", 1);
        x.setPriority(1, 0, 0);
        due.call(x.getGrandmaster(1), 0, "getGrandmaster", 1);
    }

    /** "Nothing changes." */
    private static void changesNothing(Due due) {
        GrandClock x = Scenes.busy();
        for (int c : Scenes.outside(5)) {
            x.getGrandmaster(c);
        }
        for (int c = 0; c < 5; c++) {
            x.getGrandmaster(c);
        }
        due.twins(x, Scenes.busy(), "getGrandmaster");
    }
}
