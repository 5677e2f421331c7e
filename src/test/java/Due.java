import java.util.List;

/** Prints every answer that is not the one due, and ends the test with exit code 1 if there was one. */
final class Due {
    private static final int SHOWN = 40;
    private int wrong = 0;

    void call(long got, long want, String name, long... args) {
        if (got != want) {
            tell(Seen.line(name, got, args) + ", due is " + want);
        }
    }

    void call(boolean got, boolean want, String name, long... args) {
        call(got ? 1L : 0L, want ? 1L : 0L, name, args);
    }

    void that(boolean holds, String what) {
        if (!holds) {
            tell("does not hold: " + what);
        }
    }

    void same(List<String> got, List<String> want, String what) {
        that(got.size() == want.size(), what + ": as many answers");
        for (int i = 0; i < got.size() && i < want.size(); i++) {
            if (!got.get(i).equals(want.get(i))) {
                tell(what + ": " + got.get(i) + ", due is " + want.get(i));
            }
        }
    }

    /** Two objects answer alike, now and in the steps that follow, so what can't be read is alike too. */
    void twins(GrandClock got, GrandClock want, String what) {
        same(Seen.all(got), Seen.all(want), what);
        for (int i = 1; i <= 6; i++) {
            got.run(1);
            want.run(1);
            same(Seen.all(got), Seen.all(want), what + ", after step " + i);
        }
    }

    /** The vector of a clock that follows itself. */
    void ownVector(GrandClock x, int c, int p1, int cls, int acc, int var, int p2) {
        message(x, c, -1, p1, cls, acc, var, p2, c, 0, c);
    }

    /** A valid store of age 0, or with link -1 a vector: its eight fields in the document's order. */
    void message(GrandClock x, int c, int link, int... vector) {
        int[] fields = {
            GrandClock.F_PRIORITY1, GrandClock.F_CLASS, GrandClock.F_ACCURACY, GrandClock.F_VARIANCE,
            GrandClock.F_PRIORITY2, GrandClock.F_GM, GrandClock.F_STEPS, GrandClock.F_SENDER
        };
        for (int i = 0; i < fields.length; i++) {
            call(x.getAnnounce(c, link, fields[i]), vector[i], "getAnnounce", c, link, fields[i]);
        }
        call(x.getAnnounce(c, link, GrandClock.F_VALID), 1, "getAnnounce", c, link, GrandClock.F_VALID);
        call(x.getAnnounce(c, link, GrandClock.F_AGE), 0, "getAnnounce", c, link, GrandClock.F_AGE);
    }

    void cleared(GrandClock x, int c, int link) {
        for (int field = 0; field <= 9; field++) {
            call(x.getAnnounce(c, link, field), 0, "getAnnounce", c, link, field);
        }
    }

    void states(GrandClock x, int link, int a, int stateA, int b, int stateB) {
        call(x.getPortState(a, link), stateA, "getPortState", a, link);
        call(x.getPortState(b, link), stateB, "getPortState", b, link);
    }

    void follows(GrandClock x, int c, int grandmaster, int parent, int stepsRemoved) {
        call(x.getGrandmaster(c), grandmaster, "getGrandmaster", c);
        call(x.getParent(c), parent, "getParent", c);
        call(x.getStepsRemoved(c), stepsRemoved, "getStepsRemoved", c);
    }

    /** The measures of a clock, in the order of their selectors. */
    void measures(GrandClock x, int c, long... want) {
        for (int which = 0; which < want.length; which++) {
            call(x.getMeasure(c, which), want[which], "getMeasure", c, which);
        }
    }

    void end() {
        if (wrong != 0) {
            System.out.println(wrong + " answers are not as due");
            System.exit(1);
        }
        System.out.println("all answers are as due");
    }

    private void tell(String text) {
        wrong++;
        if (wrong <= SHOWN) {
            System.out.println(text);
        }
    }
}
