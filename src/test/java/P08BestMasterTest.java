/** Promise 8, phase 5: the best master of a clock and the states of its ends. */
public final class P08BestMasterTest {
    public static void main(String[] args) {
        Due due = new Due();
        comparesFieldByField(due);
        prefersFewerSteps(due);
        prefersTheSmallerSender(due);
        setsPassiveEnds(due);
        takesTheVectorOfTheStore(due);
        becomesItsOwnMaster(due);
        followsAnAgedStore(due);
        leavesDownLinksDisabled(due);
        due.end();
    }

    private static void setDataset(GrandClock x, int c, int[] fields) {
        x.setPriority(c, fields[0], fields[4]);
        x.setQuality(c, fields[1], fields[2], fields[3]);
    }

    /** A clock is better in one field, equal before it and worse after it. */
    private static void comparesFieldByField(Due due) {
        for (int field = 0; field < 5; field++) {
            for (int better = 0; better <= 1; better++) {
                GrandClock x = Scenes.pair(2, 0, 0);
                int[] good = {100, 100, 100, 100, 100};
                int[] bad = {100, 100, 100, 100, 100};
                good[field] = 99;
                for (int later = field + 1; later < 5; later++) {
                    bad[later] = 3;
                }
                setDataset(x, better, good);
                setDataset(x, 1 - better, bad);
                x.run(4);
                due.follows(x, better, better, -1, 0);
                due.follows(x, 1 - better, better, better, 1);
            }
        }
        GrandClock equal = Scenes.pair(2, 0, 0);
        equal.run(4);
        due.follows(equal, 0, 0, -1, 0);
        due.follows(equal, 1, 0, 0, 1);
    }

    /** Clock 3 hears of clock 0 from 4 over two steps and from 2 over three. */
    private static void prefersFewerSteps(Due due) {
        GrandClock x = new GrandClock(5, 8, 2);
        x.addLink(0, 1, 0, 0);
        x.addLink(1, 2, 0, 0);
        x.addLink(2, 3, 0, 0);
        x.addLink(3, 4, 0, 0);
        x.addLink(4, 0, 0, 0);
        x.run(20);
        due.follows(x, 3, 0, 4, 2);
        due.follows(x, 2, 0, 1, 2);
        due.states(x, 3, 3, GrandClock.SLAVE, 4, GrandClock.MASTER);
        due.states(x, 2, 2, GrandClock.MASTER, 3, GrandClock.PASSIVE);
    }

    /** The links of the larger sender come first, so that their order does not decide. */
    private static void prefersTheSmallerSender(Due due) {
        GrandClock x = new GrandClock(4, 8, 2);
        x.addLink(3, 2, 0, 0);
        x.addLink(1, 3, 0, 0);
        x.addLink(0, 2, 0, 0);
        x.addLink(0, 1, 0, 0);
        x.run(20);
        due.follows(x, 3, 0, 1, 2);
        due.states(x, 0, 2, GrandClock.MASTER, 3, GrandClock.PASSIVE);
        due.states(x, 1, 1, GrandClock.MASTER, 3, GrandClock.SLAVE);
    }

    /** Of 1 and 2, both one step from 0, the end at 2 holds the better vector and is passive. */
    private static void setsPassiveEnds(Due due) {
        GrandClock x = Scenes.triangle(2);
        x.run(1);
        due.states(x, 1, 1, GrandClock.MASTER, 2, GrandClock.MASTER);
        x.run(1);
        due.states(x, 0, 0, GrandClock.MASTER, 1, GrandClock.SLAVE);
        due.states(x, 1, 1, GrandClock.MASTER, 2, GrandClock.PASSIVE);
        due.states(x, 2, 0, GrandClock.MASTER, 2, GrandClock.SLAVE);
        due.message(x, 1, 1, 128, 248, 254, 65535, 128, 0, 1, 2);
        x.run(5);
        due.states(x, 1, 1, GrandClock.MASTER, 2, GrandClock.PASSIVE);
    }

    private static void takesTheVectorOfTheStore(Due due) {
        GrandClock x = Scenes.chain(3, 2);
        x.setPriority(2, 5, 6);
        x.setQuality(2, 7, 8, 9);
        x.run(10);
        due.message(x, 2, -1, 5, 7, 8, 9, 6, 2, 0, 2);
        due.message(x, 1, -1, 5, 7, 8, 9, 6, 2, 1, 1);
        due.message(x, 0, -1, 5, 7, 8, 9, 6, 2, 2, 0);
        due.follows(x, 2, 2, -1, 0);
        due.follows(x, 1, 2, 2, 1);
        due.follows(x, 0, 2, 1, 2);
        due.call(x.getMeasure(0, GrandClock.M_COUNT), 7, "getMeasure", 0, GrandClock.M_COUNT);
    }

    /** Clock 2 of the triangle has a slave end and a passive one before it turns better. */
    private static void becomesItsOwnMaster(Due due) {
        GrandClock x = Scenes.triangle(2);
        x.run(10);
        x.setPriority(2, 127, 1);
        due.states(x, 1, 1, GrandClock.MASTER, 2, GrandClock.PASSIVE);
        x.run(1);
        due.follows(x, 2, 2, -1, 0);
        due.states(x, 1, 1, GrandClock.MASTER, 2, GrandClock.MASTER);
        due.states(x, 2, 0, GrandClock.MASTER, 2, GrandClock.MASTER);
        x.run(1);
        due.follows(x, 0, 2, 2, 1);
        due.follows(x, 1, 2, 2, 1);
        due.states(x, 2, 0, GrandClock.SLAVE, 2, GrandClock.MASTER);
    }

    /** Both clocks of the pair are slaves and silent; the vectors they make of old stores are of age 0. */
    private static void followsAnAgedStore(Due due) {
        GrandClock x = Scenes.pair(4, 0, 0);
        x.run(1);
        x.setPriority(0, 200, 200);
        x.run(2);
        due.call(x.getAnnounce(0, 0, GrandClock.F_AGE), 2, "getAnnounce", 0, 0, 3);
        due.call(x.getAnnounce(1, 0, GrandClock.F_AGE), 1, "getAnnounce", 1, 0, 3);
        due.follows(x, 0, 1, 1, 1);
        due.follows(x, 1, 0, 0, 1);
        due.message(x, 0, -1, 128, 248, 254, 65535, 128, 1, 1, 0);
        due.message(x, 1, -1, 128, 248, 254, 65535, 128, 0, 1, 1);
    }

    private static void leavesDownLinksDisabled(Due due) {
        GrandClock x = Scenes.triangle(2);
        x.run(6);
        x.setLinkUp(2, false);
        x.run(12);
        due.states(x, 2, 2, GrandClock.DISABLED, 0, GrandClock.DISABLED);
        due.states(x, 1, 1, GrandClock.MASTER, 2, GrandClock.SLAVE);
        due.follows(x, 2, 0, 1, 2);
    }
}
