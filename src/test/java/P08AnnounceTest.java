/** Promise 8, phase 4: what is sent, accepted, aged and cleared. */
public final class P08AnnounceTest {
    public static void main(String[] args) {
        Due due = new Due();
        sendsVectorsOfTheStartOfTheStep(due);
        sendsFromMastersAlone(due);
        agesUntilTheTimeout(due);
        acceptsUpToSixSteps(due);
        refusesTheReceiversOwnIdentity(due);
        agesWhenTooManyStepsAreRefused(due);
        agesWhenItsOwnIdentityIsRefused(due);
        passesDownLinks(due);
        due.end();
    }

    private static void sendsVectorsOfTheStartOfTheStep(Due due) {
        GrandClock x = Scenes.chain(4, 4);
        x.setQuality(0, 1, 2, 3);
        x.run(1);
        due.message(x, 1, 0, 128, 248, 254, 65535, 128, 0, 0, 0);
        due.message(x, 0, 0, 128, 248, 254, 65535, 128, 1, 0, 1);
        due.message(x, 2, 1, 128, 248, 254, 65535, 128, 1, 0, 1);
        due.message(x, 3, 2, 128, 248, 254, 65535, 128, 2, 0, 2);
        x.run(1);
        due.message(x, 1, 0, 128, 1, 2, 3, 128, 0, 0, 0);
        due.message(x, 2, 1, 128, 248, 254, 65535, 128, 0, 1, 1);
        due.message(x, 3, 2, 128, 248, 254, 65535, 128, 1, 1, 2);
        x.run(2);
        due.message(x, 2, 1, 128, 1, 2, 3, 128, 0, 1, 1);
        due.message(x, 3, 2, 128, 1, 2, 3, 128, 0, 2, 2);
    }

    /** In the triangle, the end at 2 toward 1 is passive and the ends toward 0 are slaves. */
    private static void sendsFromMastersAlone(Due due) {
        GrandClock x = Scenes.triangle(1);
        x.run(4);
        due.states(x, 1, 1, GrandClock.MASTER, 2, GrandClock.PASSIVE);
        due.cleared(x, 0, 0);
        due.cleared(x, 0, 2);
        due.cleared(x, 1, 1);
        due.message(x, 2, 1, 128, 248, 254, 65535, 128, 0, 1, 1);
    }

    private static void agesUntilTheTimeout(Due due) {
        for (int timeout = 1; timeout <= 4; timeout++) {
            GrandClock x = Scenes.pair(timeout, 0, 0);
            x.run(1);
            for (int age = 1; age < timeout; age++) {
                x.run(1);
                due.call(x.getAnnounce(0, 0, GrandClock.F_AGE), age, "getAnnounce", 0, 0, 3);
                due.call(x.getAnnounce(0, 0, GrandClock.F_GM), 1, "getAnnounce", 0, 0, 1);
                due.call(x.getAnnounce(1, 0, GrandClock.F_AGE), 0, "getAnnounce", 1, 0, 3);
            }
            x.run(1);
            due.cleared(x, 0, 0);
            x.run(3);
            due.cleared(x, 0, 0);
        }
    }

    /** A new link has masters at both ends, so clocks 6 and 7 announce to clock 3 once. */
    private static void acceptsUpToSixSteps(Due due) {
        GrandClock x = Scenes.chain(8, 2);
        x.run(30);
        due.follows(x, 7, 0, 6, 7);
        due.message(x, 7, 6, 128, 248, 254, 65535, 128, 0, 6, 6);
        x.addLink(3, 7, 0, 0);
        x.addLink(6, 3, 0, 0);
        x.run(1);
        due.cleared(x, 3, 7);
        due.message(x, 7, 7, 128, 248, 254, 65535, 128, 0, 3, 3);
        due.message(x, 3, 8, 128, 248, 254, 65535, 128, 0, 6, 6);
        due.message(x, 6, 8, 128, 248, 254, 65535, 128, 0, 3, 3);
    }

    private static void refusesTheReceiversOwnIdentity(Due due) {
        GrandClock x = Scenes.chain(3, 2);
        x.run(10);
        x.addLink(2, 0, 0, 0);
        x.run(1);
        due.cleared(x, 0, 2);
        due.message(x, 2, 2, 128, 248, 254, 65535, 128, 0, 0, 0);
    }

    /** Clock 0 on clock 1, and a ring of 1, 2 and 3 in which its vector goes round when it is gone. */
    private static GrandClock tailedRing() {
        GrandClock x = new GrandClock(4, 4, 3);
        x.addLink(0, 1, 0, 0);
        x.addLink(1, 2, 0, 0);
        x.addLink(2, 3, 0, 0);
        x.addLink(3, 1, 0, 0);
        x.run(30);
        return x;
    }

    /** From the sixth step on clock 1 says 7 steps, which clock 2 refuses till its older store is out. */
    private static void agesWhenTooManyStepsAreRefused(Due due) {
        GrandClock x = tailedRing();
        x.setLinkUp(0, false);
        int[] stepsOf1 = {0, 0, 4, 4, 4, 7, 7, 7, 7, 7, 0};
        int[] stepsOf2 = {2, 1, 1, 5, 5, 5, 5, 5, 0, 0, 0};
        int[] agesAt2 = {0, 0, 0, 0, 0, 0, 1, 2, 0, 0, 0};
        for (int i = 0; i < stepsOf1.length; i++) {
            x.run(1);
            due.call(x.getStepsRemoved(1), stepsOf1[i], "getStepsRemoved", 1);
            due.call(x.getStepsRemoved(2), stepsOf2[i], "getStepsRemoved", 2);
            due.call(x.getAnnounce(2, 1, GrandClock.F_VALID), i < 8 ? 1 : 0, "getAnnounce", 2, 1, 0);
            due.call(x.getAnnounce(2, 1, GrandClock.F_AGE), agesAt2[i], "getAnnounce", 2, 1, 3);
        }
        due.cleared(x, 2, 1);
    }

    /** Clock 0 turns worse and follows clock 1, to which its own old vector comes back in the fourth step. */
    private static void agesWhenItsOwnIdentityIsRefused(Due due) {
        GrandClock x = tailedRing();
        x.setPriority(0, 200, 200);
        int[] grandmasters = {0, 0, 1, 1, 1, 1, 0};
        int[] ages = {0, 0, 0, 0, 1, 2, 0};
        for (int i = 0; i < ages.length; i++) {
            x.run(1);
            due.call(x.getGrandmaster(0), grandmasters[i], "getGrandmaster", 0);
            due.call(x.getAnnounce(0, 0, GrandClock.F_GM), grandmasters[i], "getAnnounce", 0, 0, 1);
            due.call(x.getAnnounce(0, 0, GrandClock.F_AGE), ages[i], "getAnnounce", 0, 0, 3);
        }
        due.states(x, 0, 0, GrandClock.MASTER, 1, GrandClock.MASTER);
        due.follows(x, 1, 0, 3, 7);
        due.cleared(x, 0, 0);
    }

    private static void passesDownLinks(Due due) {
        GrandClock x = Scenes.chain(3, 1);
        x.setLinkUp(1, false);
        x.run(8);
        due.cleared(x, 1, 1);
        due.cleared(x, 2, 1);
        due.states(x, 1, 1, GrandClock.DISABLED, 2, GrandClock.DISABLED);
        due.message(x, 1, 0, 128, 248, 254, 65535, 128, 0, 0, 0);
        due.follows(x, 2, 2, -1, 0);
    }
}
