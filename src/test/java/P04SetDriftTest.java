/** Promise 4: setDrift. */
public final class P04SetDriftTest {
    public static void main(String[] args) {
        Due due = new Due();
        refusesOtherClocks(due);
        clampsTheDrift(due);
        changesNothingElse(due);
        due.end();
    }

    private static void refusesOtherClocks(Due due) {
        for (int c : Scenes.NO_CLOCKS_OF_FIVE) {
            GrandClock x = Scenes.busy();
            due.call(x.setDrift(c, 77), false, "setDrift", c, 77);
            due.twins(x, Scenes.busy(), "a refused setDrift");
        }
    }

    private static void clampsTheDrift(Due due) {
        int[] given = {Integer.MIN_VALUE, -100001, -100000, -99999, -1, 0, 1, 99999, 100000, 100001, Integer.MAX_VALUE};
        int[] taken = {-100000, -100000, -100000, -99999, -1, 0, 1, 99999, 100000, 100000, 100000};
        GrandClock x = new GrandClock(8, 1, 1);
        long expected = 0;
        for (int i = 0; i < given.length; i++) {
            due.call(x.setDrift(5, given[i]), true, "setDrift", 5, given[i]);
            due.call(x.getTime(5), expected, "getTime", 5);
            x.run(2);
            expected += 2 * (1000000000L + taken[i]);
            due.call(x.getTime(5), expected, "getTime", 5);
            due.call(x.getTime(4), 2000000000L * (i + 1), "getTime", 4);
        }
    }

    private static void changesNothingElse(Due due) {
        GrandClock x = Scenes.busy();
        due.call(x.setDrift(0, -5), true, "setDrift", 0, -5);
        due.same(Seen.all(x), Seen.all(Scenes.busy()), "setDrift before a step");
        due.call(x.setDrift(0, 40000), true, "setDrift", 0, 40000);
        due.twins(x, Scenes.busy(), "setDrift there and back");
    }
}
