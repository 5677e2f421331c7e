/** Promise 8, settling at its edge: exactly s = 7*T+8 steps after each kind of change, in networks of each shape. */
public final class P08SettlingEdgesTest {
    private static final int SHAPES = 9;

    public static void main(String[] args) {
        Due due = new Due();
        for (int timeout = 1; timeout <= 4; timeout++) {
            for (int shape = 0; shape < SHAPES; shape++) {
                settlesAfterAddLink(due, shape, timeout);
                settlesAfterSetPriority(due, shape, timeout);
                settlesAfterSetQuality(due, shape, timeout);
                settlesAfterSetLinkUp(due, shape, timeout);
                doesNotWaitForOtherCalls(due, shape, timeout);
            }
            settlesWithoutLinks(due, timeout);
            settlesWhenTheBestClockIsCutOff(due, timeout);
            measuresDelaysAtTheirBounds(due, timeout);
            measuresTimesAtTheirBounds(due, timeout);
        }
        due.end();
    }

    private static Network shape(int shape, int timeout) {
        Network net = new Network(shape == 5 ? 6 : 8, timeout);
        switch (shape) {
            case 0 -> line(net, 0, 7);
            case 1 -> line(net, 0, 7).join(7, 0, 70);
            case 2 -> star(net);
            case 3 -> line(net, 0, 7).join(7, 4, 70).join(3, 0, 30);
            case 4 -> line(line(net, 0, 3), 4, 7);
            case 5 -> everyPair(net);
            case 6 -> twoSides(net);
            case 7 -> line(net, 2, 7).join(7, 2, 70).join(0, 2, 20);
            default -> line(net, 0, 3).join(3, 7, 70).join(7, 6, 60).join(6, 5, 50).join(5, 4, 40).join(4, 0, 10);
        }
        return net;
    }

    private static Network line(Network net, int first, int last) {
        for (int c = first; c < last; c++) {
            net.join(c, c + 1, 1000 + c);
        }
        return net;
    }

    private static void star(Network net) {
        for (int c = 0; c < 7; c++) {
            net.join(7, c, 100 * c);
        }
    }

    private static void everyPair(Network net) {
        for (int a = 5; a >= 0; a--) {
            for (int b = 0; b < a; b++) {
                net.join(a, b, 10 * a + b);
            }
        }
    }

    private static void twoSides(Network net) {
        for (int a = 0; a < 4; a++) {
            for (int b = 4; b < 8; b++) {
                net.join(a, b, 10 * a + b);
            }
        }
    }

    private static Network settled(int shape, int timeout) {
        Network net = shape(shape, timeout);
        net.x.run(net.stepsToSettle());
        return net;
    }

    /** The first row: "getGrandmaster(c) = B", and with it all the others, at s and at s + 1. */
    private static void settle(Due due, Network net) {
        net.x.run(net.stepsToSettle());
        net.checkSettled(due);
        net.checkSettled(due);
    }

    /** "Suppose s >= 7*T+8." here and in the next ones: since the last link was added. */
    private static void settlesAfterAddLink(Due due, int shape, int timeout) {
        Network net = shape(shape, timeout);
        settle(due, net);
        for (int b = 2; b < net.clocks; b += 3) {
            net.join(b - 2, b, 500);
            settle(due, net);
        }
    }

    /** Each clock in turn becomes the best, then the worst. */
    private static void settlesAfterSetPriority(Due due, int shape, int timeout) {
        Network net = settled(shape, timeout);
        for (int c = 0; c < net.clocks; c++) {
            net.x.setPriority(c, 0, 0);
            settle(due, net);
            net.x.setPriority(c, 255, 255);
            settle(due, net);
        }
    }

    private static void settlesAfterSetQuality(Due due, int shape, int timeout) {
        Network net = settled(shape, timeout);
        for (int c = net.clocks - 1; c >= 0; c--) {
            net.x.setQuality(c, 248, 254, 0);
            settle(due, net);
            net.x.setQuality(c, 255, 255, 65535);
            settle(due, net);
        }
    }

    private static void settlesAfterSetLinkUp(Due due, int shape, int timeout) {
        Network net = settled(shape, timeout);
        for (int link = 0; link < net.links; link++) {
            net.setLinkUp(link, false);
            settle(due, net);
            net.setLinkUp((link + net.links - 1) % net.links, true);
            settle(due, net);
        }
    }

    /** "since the last accepted call of setPriority, setQuality, addLink or setLinkUp": others do not count. */
    private static void doesNotWaitForOtherCalls(Due due, int shape, int timeout) {
        Network net = settled(shape, timeout);
        net.x.setPriority(0, 255, 255);
        net.x.run(net.stepsToSettle() - 1);
        net.x.setDrift(1, 100000);
        net.x.setTime(1, 5000000000L);
        due.call(net.x.setPriority(8, 0, 0), false, "setPriority", 8, 0, 0);
        due.call(net.x.setQuality(-1, 0, 0, 0), false, "setQuality", -1, 0, 0, 0);
        due.call(net.x.setLinkUp(net.links, false), false, "setLinkUp", net.links, 0);
        due.call(net.x.addLink(1, 1, 0, 0), -1, "addLink", 1, 1, 0, 0);
        net.x.run(1);
        net.checkSettled(due);
    }

    /** "or since construction if there was none" */
    private static void settlesWithoutLinks(Due due, int timeout) {
        for (int clocks = 2; clocks <= 8; clocks++) {
            settle(due, new Network(clocks, timeout));
        }
    }

    /** "all clocks reachable from c over up links": the vector of the lost clock goes round in what is left. */
    private static void settlesWhenTheBestClockIsCutOff(Due due, int timeout) {
        for (int shape = 0; shape < SHAPES; shape++) {
            Network net = settled(shape, timeout);
            int best = net.bestReached(0);
            for (int link = 0; link < net.links; link++) {
                if (net.x.getPortState(best, link) != GrandClock.NO_PORT) {
                    net.setLinkUp(link, false);
                }
            }
            settle(due, net);
        }
    }

    /** "getMeasure(c, M_DELAY) equals d": for the least and the greatest d. */
    private static void measuresDelaysAtTheirBounds(Due due, int timeout) {
        for (int d : new int[] {Integer.MIN_VALUE, -1, 0, 1, 9999999, 10000000, 10000001, Integer.MAX_VALUE}) {
            Network net = new Network(3, timeout).join(0, 1, d).join(2, 1, d);
            net.x.setTime(2, 77L);
            settle(due, net);
        }
    }

    /** "equals getTime(c) - getTime(p) as read just before that run(1)": for the least and the greatest times. */
    private static void measuresTimesAtTheirBounds(Due due, int timeout) {
        Network net = settled(0, timeout);
        net.x.setTime(0, Long.MAX_VALUE);
        net.x.setTime(1, Long.MIN_VALUE);
        net.x.setTime(2, GrandClock.MAX_TIME);
        net.checkSettled(due);
        due.call(net.x.getMeasure(1, GrandClock.M_OFFSET), -GrandClock.MAX_TIME, "getMeasure", 1, 0);
        due.call(net.x.getMeasure(2, GrandClock.M_OFFSET), GrandClock.MAX_TIME, "getMeasure", 2, 0);
    }
}
