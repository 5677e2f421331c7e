/** Promises 1 to 16: long thrown runs of calls, each answer and each state compared with the model's. */
public final class ModelTest {
    private static final int RUNS = 700;
    private static final int CALLS = 120;
    private final Due due = new Due();
    private Dice dice;
    private GrandClock real;
    private Model model;

    public static void main(String[] args) {
        ModelTest test = new ModelTest();
        for (int run = 1; run <= RUNS; run++) {
            test.throwRun(run);
        }
        test.due.end();
    }

    private void throwRun(int seed) {
        dice = new Dice(seed);
        int clocks = dice.between(-1, 10);
        int links = dice.between(-1, 18);
        int timeout = dice.between(-1, 6);
        real = new GrandClock(clocks, links, timeout);
        model = new Model(clocks, links, timeout);
        compareStates();
        for (int i = dice.roll(14); i > 0; i--) {
            throwLink();
        }
        for (int i = 0; i < CALLS; i++) {
            throwCall();
            compareStates();
        }
    }

    private int clock() {
        return dice.between(-1, model.clocks.size());
    }

    private int number() {
        return dice.oneOf(Integer.MIN_VALUE, -70000, -1, 0, 1, 2, 127, 128, 129, 254, 255, 256, 65535, 65536, Integer.MAX_VALUE);
    }

    private void throwCall() {
        switch (dice.roll(12)) {
            case 0 -> throwPriority();
            case 1 -> throwQuality();
            case 2 -> throwDrift();
            case 3 -> throwTime();
            case 4 -> throwLink();
            case 5, 6 -> throwLinkUp();
            default -> throwSteps();
        }
    }

    private void throwPriority() {
        int c = clock();
        int p1 = dice.roll(3) == 0 ? number() : dice.between(126, 130);
        int p2 = number();
        due.call(real.setPriority(c, p1, p2), model.setPriority(c, p1, p2), "setPriority", c, p1, p2);
    }

    private void throwQuality() {
        int c = clock();
        int cls = dice.roll(2) == 0 ? number() : 248;
        int acc = dice.roll(2) == 0 ? number() : 254;
        int var = number();
        due.call(real.setQuality(c, cls, acc, var), model.setQuality(c, cls, acc, var), "setQuality", c, cls, acc, var);
    }

    private void throwDrift() {
        int c = clock();
        int ppb = dice.roll(3) == 0 ? number() : dice.between(-100002, 100002);
        due.call(real.setDrift(c, ppb), model.setDrift(c, ppb), "setDrift", c, ppb);
    }

    /** Mostly a time near that of another clock, where the servo neither steps nor rests. */
    private void throwTime() {
        int c = clock();
        long t = number() * 20000000000L;
        if (dice.roll(4) > 0) {
            t = model.getTime(clock()) + dice.between(-1100000, 1100000);
        }
        due.call(real.setTime(c, t), model.setTime(c, t), "setTime", c, t);
    }

    private void throwLink() {
        int a = clock();
        int b = clock();
        int dab = dice.roll(6) == 0 ? number() * 200 : dice.between(0, 20000);
        int dba = dice.roll(6) == 0 ? number() * 200 : dice.between(0, 20000);
        due.call(real.addLink(a, b, dab, dba), model.addLink(a, b, dab, dba), "addLink", a, b, dab, dba);
    }

    private void throwLinkUp() {
        int link = dice.between(-1, model.links.size());
        boolean up = dice.roll(5) < 3;
        due.call(real.setLinkUp(link, up), model.setLinkUp(link, up), "setLinkUp", link, up ? 1 : 0);
    }

    private void throwSteps() {
        int steps = dice.roll(12) == 0 ? dice.oneOf(-5, 0, 10, 63, 64, 65, 100) : dice.between(1, 3);
        due.call(real.run(steps), model.run(steps), "run", steps);
    }

    private void compareStates() {
        for (int c = -1; c <= model.clocks.size(); c++) {
            due.call(real.getGrandmaster(c), model.getGrandmaster(c), "getGrandmaster", c);
            due.call(real.getParent(c), model.getParent(c), "getParent", c);
            due.call(real.getStepsRemoved(c), model.getStepsRemoved(c), "getStepsRemoved", c);
            due.call(real.getTime(c), model.getTime(c), "getTime", c);
            for (int which = -1; which <= 9; which++) {
                due.call(real.getMeasure(c, which), model.getMeasure(c, which), "getMeasure", c, which);
            }
            for (int link = -2; link <= model.links.size(); link++) {
                compareEnds(c, link);
            }
            for (int b = -1; b <= model.clocks.size(); b++) {
                due.call(real.compareDatasets(c, b), model.compareDatasets(c, b), "compareDatasets", c, b);
            }
        }
    }

    private void compareEnds(int c, int link) {
        due.call(real.getPortState(c, link), model.getPortState(c, link), "getPortState", c, link);
        for (int field = -1; field <= 10; field++) {
            due.call(real.getAnnounce(c, link, field), model.getAnnounce(c, link, field), "getAnnounce", c, link, field);
        }
    }
}
