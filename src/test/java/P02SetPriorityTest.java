/** Promise 2: setPriority. */
public final class P02SetPriorityTest {
    public static void main(String[] args) {
        Due due = new Due();
        refusesOtherClocks(due);
        clampsBothPriorities(due);
        leavesTheRestOfTheDatasets(due);
        leavesTheVectorToTheStep(due);
        changesTheOrderAtOnce(due);
        due.end();
    }

    private static void refusesOtherClocks(Due due) {
        for (int c : Scenes.NO_CLOCKS_OF_FIVE) {
            GrandClock x = Scenes.busy();
            due.call(x.setPriority(c, 1, 2), false, "setPriority", c, 1, 2);
            due.twins(x, Scenes.busy(), "a refused setPriority");
        }
    }

    private static void clampsBothPriorities(Due due) {
        int[] given = {Integer.MIN_VALUE, -1, 0, 1, 127, 254, 255, 256, 65535, Integer.MAX_VALUE};
        int[] taken = {0, 0, 0, 1, 127, 254, 255, 255, 255, 255};
        for (int i = 0; i < given.length; i++) {
            for (int k = 0; k < given.length; k++) {
                GrandClock x = new GrandClock(2, 1, 1);
                due.call(x.setPriority(1, given[i], given[k]), true, "setPriority", 1, given[i], given[k]);
                x.run(1);
                due.ownVector(x, 1, taken[i], 248, 254, 65535, taken[k]);
            }
        }
    }

    private static void leavesTheRestOfTheDatasets(Due due) {
        GrandClock x = new GrandClock(8, 1, 1);
        x.setQuality(7, 1, 2, 3);
        due.call(x.setPriority(0, 4, 5), true, "setPriority", 0, 4, 5);
        due.call(x.setPriority(7, 6, 9), true, "setPriority", 7, 6, 9);
        x.run(1);
        due.ownVector(x, 0, 4, 248, 254, 65535, 5);
        for (int c = 1; c < 7; c++) {
            due.ownVector(x, c, 128, 248, 254, 65535, 128);
        }
        due.ownVector(x, 7, 6, 1, 2, 3, 9);
    }

    /** The step that takes up the change still announces the old vector. */
    private static void leavesTheVectorToTheStep(Due due) {
        GrandClock x = Scenes.busy();
        due.call(x.setPriority(3, 7, 8), true, "setPriority", 3, 7, 8);
        due.call(x.setPriority(0, 1, 1), true, "setPriority", 0, 1, 1);
        due.same(Seen.state(x), Seen.state(Scenes.busy()), "setPriority before a step");

        GrandClock pair = Scenes.pair(2, 0, 0);
        pair.run(3);
        pair.setPriority(0, 100, 90);
        due.ownVector(pair, 0, 128, 248, 254, 65535, 128);
        pair.run(1);
        due.ownVector(pair, 0, 100, 248, 254, 65535, 90);
        due.message(pair, 1, 0, 128, 248, 254, 65535, 128, 0, 0, 0);
        pair.run(1);
        due.message(pair, 1, 0, 100, 248, 254, 65535, 90, 0, 0, 0);
    }

    private static void changesTheOrderAtOnce(Due due) {
        GrandClock x = new GrandClock(2, 1, 1);
        x.setPriority(1, 127, 128);
        due.call(x.compareDatasets(0, 1), 1, "compareDatasets", 0, 1);
        x.setPriority(1, 128, 129);
        due.call(x.compareDatasets(0, 1), -1, "compareDatasets", 0, 1);
        x.setPriority(1, 128, 127);
        due.call(x.compareDatasets(0, 1), 1, "compareDatasets", 0, 1);
    }
}
