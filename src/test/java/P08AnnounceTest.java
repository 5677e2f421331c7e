/** Promise 8, phase 4: what is sent, accepted, aged and cleared. */
public final class P08AnnounceTest {
    public static void main(String[] args) {
        Due due = new Due();
        sendsVectorsOfTheStartOfTheStep(due);
        sendsFromMastersAlone(due);
        agesUntilTheTimeout(due);
        acceptsUpToSixSteps(due);
        refusesTheReceiversOwnIdentity(due);
        agesWhenTheMessageIsRefused(due);
        passesDownLinks(due);
        due.end();
    }

    private static void sendsVectorsOfTheStartOfTheStep(Due due) {
        GrandClock x = Scenes.chain(4, 4);
        x.setQuality(0, 1, 2, 3);
        x.run(1);
        due.message(x, 1, 0, 128, 248, 254, 65535, 128, 0, 0, 0);
        due.message(x, 0, 0, 128, 248, 254, 65535, 128, 1, 0, 1);
        due.message(x, 2, 1, 128, 248, 254, 65535, 128, 1, 0, 1);
        due.message(x, 3, 2, 128, 248, 254, 65535, 128, 2, 0, 2);
        x.run(1);
        due.message(x, 1, 0, 128, 1, 2, 3, 128, 0, 0, 0);
        due.message(x, 2, 1, 128, 248, 254, 65535, 128, 0, 1, 1);
        due.message(x, 3, 2, 128, 248, 254, 65535, 128, 1, 1, 2);
        x.run(2);
        due.message(x, 2, 1, 128, 1, 2, 3, 128, 0, 1, 1);
        due.message(x, 3, 2, 128, 1, 2, 3, 128, 0, 2, 2);
    }

    /** In the triangle, the end at 2 toward 1 is passive and the ends toward 0 are slaves. */
    private static void sendsFromMastersAlone(Due due) {
        GrandClock x = new GrandClock(3, 3, 1);
        x.addLink(0, 1, 0, 0);
        x.addLink(1, 2, 0, 0);
        x.addLink(2, 0, 0, 0);
        x.run(4);
        due.states(x, 1, 1, GrandClock.MASTER, 2, GrandClock.PASSIVE);
        due.cleared(x, 0, 0);
        due.cleared(x, 0, 2);
        due.cleared(x, 1, 1);
        due.message(x, 2, 1, 128, 248, 254, 65535, 128, 0, 1, 1);
    }

    private static void agesUntilTheTimeout(Due due) {
        for (int timeout = 1; timeout <= 4; timeout++) {
            GrandClock x = Scenes.pair(timeout, 0, 0);
            x.run(1);
            for (int age = 1; age < timeout; age++) {
                x.run(1);
                due.call(x.getAnnounce(0, 0, GrandClock.F_AGE), age, "getAnnounce", 0, 0, 3);
                due.call(x.getAnnounce(0, 0, GrandClock.F_GM), 1, "getAnnounce", 0, 0, 1);
                due.call(x.getAnnounce(1, 0, GrandClock.F_AGE), 0, "getAnnounce", 1, 0, 3);
            }
            x.run(1);
            due.cleared(x, 0, 0);
            x.run(3);
            due.cleared(x, 0, 0);
        }
    }

    /** A new link has masters at both ends, so clocks 6 and 7 announce to clock 3 once. */
    private static void acceptsUpToSixSteps(Due due) {
        GrandClock x = Scenes.chain(8, 2);
        x.run(30);
        due.follows(x, 7, 0, 6, 7);
        due.message(x, 7, 6, 128, 248, 254, 65535, 128, 0, 6, 6);
        x.addLink(3, 7, 0, 0);
        x.addLink(6, 3, 0, 0);
        x.run(1);
        due.cleared(x, 3, 7);
        due.message(x, 7, 7, 128, 248, 254, 65535, 128, 0, 3, 3);
        due.message(x, 3, 8, 128, 248, 254, 65535, 128, 0, 6, 6);
        due.message(x, 6, 8, 128, 248, 254, 65535, 128, 0, 3, 3);
    }

    private static void refusesTheReceiversOwnIdentity(Due due) {
        GrandClock x = Scenes.chain(3, 2);
        x.run(10);
        x.addLink(2, 0, 0, 0);
        x.run(1);
        due.cleared(x, 0, 2);
        due.message(x, 2, 2, 128, 248, 254, 65535, 128, 0, 0, 0);
    }

    /**
     * Clock 1 hears clock 0 and clock 2 say that they follow clock 1 only when it has
     * turned worse: its store of clock 2's first own vector ages all the while.
     */
    private static void agesWhenTheMessageIsRefused(Due due) {
        GrandClock x = new GrandClock(3, 3, 4);
        x.addLink(0, 1, 0, 0);
        x.run(6);
        x.addLink(1, 2, 0, 0);
        x.run(1);
        due.message(x, 1, 1, 128, 248, 254, 65535, 128, 2, 0, 2);
        for (int age = 1; age <= 3; age++) {
            x.run(1);
            due.call(x.getAnnounce(1, 1, GrandClock.F_AGE), age, "getAnnounce", 1, 1, 3);
        }
        x.run(1);
        due.cleared(x, 1, 1);
    }

    private static void passesDownLinks(Due due) {
        GrandClock x = Scenes.chain(3, 1);
        x.setLinkUp(1, false);
        x.run(8);
        due.cleared(x, 1, 1);
        due.cleared(x, 2, 1);
        due.states(x, 1, 1, GrandClock.DISABLED, 2, GrandClock.DISABLED);
        due.message(x, 1, 0, 128, 248, 254, 65535, 128, 0, 0, 0);
        due.follows(x, 2, 2, -1, 0);
    }
}
