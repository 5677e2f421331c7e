/** Promise 16: compareDatasets. */
public final class P16CompareDatasetsTest {
    public static void main(String[] args) {
        Due due = new Due();
        answersZero(due);
        comparesFieldByField(due);
        usesDatasetsNotVectors(due);
        isAStrictTotalOrder(due);
        changesNothing(due);
        due.end();
    }

    private static void answersZero(Due due) {
        GrandClock x = Scenes.busy();
        for (int c : Scenes.NO_CLOCKS_OF_FIVE) {
            for (int b = 0; b < 5; b++) {
                due.call(x.compareDatasets(c, b), 0, "compareDatasets", c, b);
                due.call(x.compareDatasets(b, c), 0, "compareDatasets", b, c);
            }
            due.call(x.compareDatasets(c, c), 0, "compareDatasets", c, c);
            due.call(x.compareDatasets(c, -2), 0, "compareDatasets", c, -2);
        }
        for (int c = 0; c < 5; c++) {
            due.call(x.compareDatasets(c, c), 0, "compareDatasets", c, c);
        }
    }

    private static void bothWays(Due due, GrandClock x, int better, int worse) {
        due.call(x.compareDatasets(better, worse), -1, "compareDatasets", better, worse);
        due.call(x.compareDatasets(worse, better), 1, "compareDatasets", worse, better);
    }

    /** Clock 1 is better in one field, and clock 0 in every field after it. */
    private static void comparesFieldByField(Due due) {
        GrandClock x = new GrandClock(2, 1, 1);
        bothWays(due, x, 0, 1);
        x.setPriority(1, 128, 127);
        bothWays(due, x, 1, 0);
        x.setPriority(0, 128, 0);
        x.setQuality(1, 248, 254, 65534);
        bothWays(due, x, 1, 0);
        x.setQuality(0, 248, 254, 0);
        x.setQuality(1, 248, 253, 65535);
        bothWays(due, x, 1, 0);
        x.setQuality(0, 248, 0, 0);
        x.setQuality(1, 247, 255, 65535);
        bothWays(due, x, 1, 0);
        x.setQuality(0, 0, 0, 0);
        x.setPriority(1, 127, 255);
        bothWays(due, x, 1, 0);
        x.setPriority(0, 126, 255);
        bothWays(due, x, 0, 1);
    }

    private static void usesDatasetsNotVectors(Due due) {
        GrandClock x = Scenes.pair(2, 0, 0);
        x.run(5);
        x.setPriority(1, 1, 1);
        bothWays(due, x, 1, 0);
        x.setPriority(1, 250, 1);
        bothWays(due, x, 0, 1);
        x.run(5);
        bothWays(due, x, 0, 1);
    }

    private static void isAStrictTotalOrder(Due due) {
        Dice dice = new Dice(16L);
        for (int run = 0; run < 300; run++) {
            GrandClock x = new GrandClock(8, 1, 1);
            for (int c = 0; c < 8; c++) {
                x.setPriority(c, dice.roll(2), dice.roll(2));
                x.setQuality(c, dice.roll(2), dice.roll(2), dice.roll(2));
            }
            checkOrder(due, x);
        }
    }

    private static void checkOrder(Due due, GrandClock x) {
        for (int a = 0; a < 8; a++) {
            for (int b = 0; b < 8; b++) {
                int ab = x.compareDatasets(a, b);
                due.that((ab == 0) == (a == b), "0 for the same clock alone");
                due.that(ab >= -1 && ab <= 1, "-1, 0 or 1");
                due.call(x.compareDatasets(b, a), -ab, "compareDatasets", b, a);
                for (int c = 0; c < 8; c++) {
                    boolean chained = ab < 0 && x.compareDatasets(b, c) < 0;
                    due.that(!chained || x.compareDatasets(a, c) == -1, "the order is transitive");
                }
            }
        }
    }

    private static void changesNothing(Due due) {
        GrandClock x = Scenes.busy();
        Seen.order(x);
        due.twins(x, Scenes.busy(), "compareDatasets");
    }
}
