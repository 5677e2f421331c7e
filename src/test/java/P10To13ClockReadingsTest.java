/** Promises 10 to 13: getGrandmaster, getParent, getStepsRemoved and getTime. */
public final class P10To13ClockReadingsTest {
    public static void main(String[] args) {
        Due due = new Due();
        answersForOtherClocks(due);
        answersOfAChain(due);
        answersTheVectorNotTheDataset(due);
        answersTheTime(due);
        changesNothing(due);
        due.end();
    }

    private static void answersForOtherClocks(Due due) {
        GrandClock x = Scenes.busy();
        for (int c : Scenes.NO_CLOCKS_OF_FIVE) {
            due.follows(x, c, -1, -1, -1);
            due.call(x.getTime(c), 0, "getTime", c);
        }
        GrandClock two = new GrandClock(2, 1, 1);
        two.run(1);
        due.follows(two, 2, -1, -1, -1);
        due.call(two.getTime(2), 0, "getTime", 2);
    }

    private static void answersOfAChain(Due due) {
        GrandClock x = Scenes.chain(8, 1);
        for (int c = 0; c < 8; c++) {
            due.follows(x, c, c, -1, 0);
        }
        x.run(20);
        due.follows(x, 0, 0, -1, 0);
        for (int c = 1; c < 8; c++) {
            due.follows(x, c, 0, c - 1, c);
        }
        x.setPriority(7, 0, 0);
        x.run(20);
        due.follows(x, 7, 7, -1, 0);
        for (int c = 0; c < 7; c++) {
            due.follows(x, c, 7, c + 1, 7 - c);
        }
    }

    private static void answersTheVectorNotTheDataset(Due due) {
        GrandClock x = Scenes.pair(1, 0, 0);
        x.run(4);
        x.setPriority(1, 0, 0);
        due.follows(x, 1, 0, 0, 1);
        x.run(1);
        due.follows(x, 1, 1, -1, 0);
        due.follows(x, 0, 0, -1, 0);
        x.run(1);
        due.follows(x, 0, 1, 1, 1);
    }

    private static void answersTheTime(Due due) {
        GrandClock x = new GrandClock(3, 1, 1);
        x.setTime(2, 999999999999999999L);
        due.call(x.getTime(0), 0, "getTime", 0);
        due.call(x.getTime(2), 999999999999999999L, "getTime", 2);
        x.run(2);
        due.call(x.getTime(0), 2000000000L, "getTime", 0);
        due.call(x.getTime(2), 1000000001999999999L, "getTime", 2);
    }

    private static void changesNothing(Due due) {
        GrandClock x = Scenes.busy();
        for (int c = -1; c <= 8; c++) {
            x.getGrandmaster(c);
            x.getParent(c);
            x.getStepsRemoved(c);
            x.getTime(c);
        }
        due.twins(x, Scenes.busy(), "getGrandmaster, getParent, getStepsRemoved and getTime");
    }
}
