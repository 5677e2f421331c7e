import java.util.List;

/** Promise 5: setTime. */
public final class P05SetTimeTest {
    public static void main(String[] args) {
        Due due = new Due();
        refusesOtherClocks(due);
        clampsTheTime(due);
        changesNothingElse(due);
        due.end();
    }

    private static void refusesOtherClocks(Due due) {
        for (int c : Scenes.NO_CLOCKS_OF_FIVE) {
            GrandClock x = Scenes.busy();
            due.call(x.setTime(c, 77L), false, "setTime", c, 77);
            due.twins(x, Scenes.busy(), "a refused setTime");
        }
    }

    private static void clampsTheTime(Due due) {
        long max = 1000000000000000000L;
        long[] given = {Long.MIN_VALUE, -1L, 0L, 1L, 5000000000L, max - 1, max, max + 1, Long.MAX_VALUE};
        long[] taken = {0L, 0L, 0L, 1L, 5000000000L, max - 1, max, max, max};
        GrandClock x = new GrandClock(8, 1, 1);
        for (int i = 0; i < given.length; i++) {
            due.call(x.setTime(7, given[i]), true, "setTime", 7, given[i]);
            due.call(x.getTime(7), taken[i], "getTime", 7);
            due.call(x.getTime(6), 1000000000L * i, "getTime", 6);
            x.run(1);
            due.call(x.getTime(7), taken[i] + 1000000000L, "getTime", 7);
        }
    }

    /** Clock 0 has a last measurement, an adjust and an integral then. */
    private static void changesNothingElse(Due due) {
        GrandClock x = Scenes.busy();
        due.that(x.getMeasure(0, GrandClock.M_ADJUST) != 0, "clock 0 has an adjust");
        due.that(x.getMeasure(0, GrandClock.M_INTEGRAL) != 0, "clock 0 has an integral");
        List<String> want = Seen.all(x);
        String before = Seen.line("getTime", x.getTime(0), 0);
        int line = want.indexOf(before);
        due.that(line >= 0, "the time of clock 0 is among what is read");
        due.call(x.setTime(0, 123L), true, "setTime", 0, 123);
        want.set(line, Seen.line("getTime", 123L, 0));
        due.same(Seen.all(x), want, "setTime before a step");

        GrandClock back = Scenes.busy();
        long time = back.getTime(0);
        back.setTime(0, 123L);
        back.setTime(0, time);
        due.twins(back, Scenes.busy(), "setTime there and back");
    }
}
