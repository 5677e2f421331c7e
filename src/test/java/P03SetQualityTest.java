/** Promise 3: setQuality. */
public final class P03SetQualityTest {
    private static final int[] GIVEN = {
        Integer.MIN_VALUE, -1, 0, 1, 254, 255, 256, 65534, 65535, 65536, Integer.MAX_VALUE
    };
    private static final int[] OCTET = {0, 0, 0, 1, 254, 255, 255, 255, 255, 255, 255};
    private static final int[] WORD = {0, 0, 0, 1, 254, 255, 256, 65534, 65535, 65535, 65535};

    public static void main(String[] args) {
        Due due = new Due();
        refusesOtherClocks(due);
        clampsEachField(due);
        leavesTheRestOfTheDatasets(due);
        leavesTheVectorToTheStep(due);
        due.end();
    }

    private static void refusesOtherClocks(Due due) {
        for (int c : Scenes.NO_CLOCKS_OF_FIVE) {
            GrandClock x = Scenes.busy();
            due.call(x.setQuality(c, 1, 2, 3), false, "setQuality", c, 1, 2, 3);
            due.twins(x, Scenes.busy(), "a refused setQuality");
        }
    }

    private static void clampsEachField(Due due) {
        for (int i = 0; i < GIVEN.length; i++) {
            GrandClock x = new GrandClock(3, 1, 1);
            due.call(x.setQuality(0, GIVEN[i], 5, 6), true, "setQuality", 0, GIVEN[i], 5, 6);
            due.call(x.setQuality(1, 5, GIVEN[i], 6), true, "setQuality", 1, 5, GIVEN[i], 6);
            due.call(x.setQuality(2, 5, 6, GIVEN[i]), true, "setQuality", 2, 5, 6, GIVEN[i]);
            x.run(1);
            due.ownVector(x, 0, 128, OCTET[i], 5, 6, 128);
            due.ownVector(x, 1, 128, 5, OCTET[i], 6, 128);
            due.ownVector(x, 2, 128, 5, 6, WORD[i], 128);
        }
    }

    private static void leavesTheRestOfTheDatasets(Due due) {
        GrandClock x = new GrandClock(8, 1, 1);
        x.setPriority(7, 11, 12);
        due.call(x.setQuality(0, 1, 2, 3), true, "setQuality", 0, 1, 2, 3);
        due.call(x.setQuality(7, 4, 5, 6), true, "setQuality", 7, 4, 5, 6);
        x.run(1);
        due.ownVector(x, 0, 128, 1, 2, 3, 128);
        for (int c = 1; c < 7; c++) {
            due.ownVector(x, c, 128, 248, 254, 65535, 128);
        }
        due.ownVector(x, 7, 11, 4, 5, 6, 12);
    }

    private static void leavesTheVectorToTheStep(Due due) {
        GrandClock x = Scenes.busy();
        due.call(x.setQuality(3, 7, 8, 9), true, "setQuality", 3, 7, 8, 9);
        due.call(x.setQuality(0, 1, 1, 1), true, "setQuality", 0, 1, 1, 1);
        due.same(Seen.state(x), Seen.state(Scenes.busy()), "setQuality before a step");

        GrandClock pair = Scenes.pair(2, 0, 0);
        pair.run(3);
        pair.setQuality(0, 9, 10, 11);
        due.call(pair.compareDatasets(0, 1), -1, "compareDatasets", 0, 1);
        due.ownVector(pair, 0, 128, 248, 254, 65535, 128);
        pair.run(1);
        due.ownVector(pair, 0, 128, 9, 10, 11, 128);
        due.message(pair, 1, 0, 128, 248, 254, 65535, 128, 0, 0, 0);
        pair.run(1);
        due.message(pair, 1, 0, 128, 9, 10, 11, 128, 0, 0, 0);
    }
}
