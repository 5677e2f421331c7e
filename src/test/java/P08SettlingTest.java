/** Promise 8, settling: what holds 7 * T + 8 steps after the last change, over thrown networks. */
public final class P08SettlingTest {
    private static final int RUNS = 400;
    private static final int ROUNDS = 4;
    private final Due due = new Due();
    private Dice dice;
    private Network net;

    public static void main(String[] args) {
        P08SettlingTest test = new P08SettlingTest();
        for (int run = 1; run <= RUNS; run++) {
            test.throwNetwork(run);
        }
        test.due.end();
    }

    private void throwNetwork(int seed) {
        dice = new Dice(1000L + seed);
        int clocks = dice.between(2, 8);
        int timeout = dice.between(1, 4);
        net = new Network(clocks, timeout);
        for (int i = dice.between(1, 24); i > 0; i--) {
            int a = dice.roll(clocks);
            int b = dice.roll(clocks);
            int d = dice.roll(50000);
            net.join(a, b, d);
        }
        for (int round = 0; round < ROUNDS; round++) {
            change();
            net.x.run(net.stepsToSettle());
            net.checkSettled(due);
            net.x.run(dice.roll(4));
            net.checkSettled(due);
        }
    }

    private void change() {
        for (int i = dice.roll(6); i > 0; i--) {
            int c = dice.roll(net.clocks);
            net.x.setPriority(c, dice.between(126, 129), dice.between(126, 129));
            net.x.setQuality(dice.roll(net.clocks), dice.between(247, 249), 254, 65535);
            net.x.setDrift(c, dice.between(-100000, 100000));
            net.x.setTime(c, dice.roll(2000000000));
            net.setLinkUp(dice.roll(net.links + 1), i % 3 > 0);
            net.x.run(dice.roll(5));
        }
    }
}
