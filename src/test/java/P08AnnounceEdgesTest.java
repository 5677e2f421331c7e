/** Promise 8, phase 4 at its edges: what is accepted at the last step and refused beyond, and the ages. */
public final class P08AnnounceEdgesTest {
    public static void main(String[] args) {
        Due due = new Due();
        acceptsSixStepsAndRefusesSeven(due);
        refusesTheReceiversOwnIdentity(due);
        acceptsAnotherIdentityThanTheReceivers(due);
        for (int timeout = 1; timeout <= 4; timeout++) {
            agesWhenNothingIsSent(due, timeout);
            agesWhenTooManyStepsAreSent(due, timeout);
            agesWhenItsOwnIdentityIsSent(due, timeout);
        }
        leavesClearedStoresCleared(due);
        acceptanceTakesTheAgeAway(due);
        sendsNothingFromSlaves(due);
        sendsNothingFromPassiveEnds(due);
        leavesEndsOfDownLinks(due);
        usesStatesOfTheStartOfTheStep(due);
        due.end();
    }

    /** "accepted if its stepsRemoved <= MAX_ACCEPT_STEPS": clocks 6 and 7 of a line say 6 and 7 steps. */
    private static void acceptsSixStepsAndRefusesSeven(Due due) {
        GrandClock x = Scenes.chain(8, 2);
        x.run(30);
        due.follows(x, 5, 0, 4, 5);
        due.follows(x, 6, 0, 5, 6);
        due.follows(x, 7, 0, 6, 7);
        x.addLink(5, 2, 0, 0);
        x.addLink(6, 2, 0, 0);
        x.addLink(7, 2, 0, 0);
        x.run(1);
        due.message(x, 2, 7, 128, 248, 254, 65535, 128, 0, 5, 5);
        due.message(x, 2, 8, 128, 248, 254, 65535, 128, 0, 6, 6);
        due.cleared(x, 2, 9);
        due.message(x, 7, 9, 128, 248, 254, 65535, 128, 0, 2, 2);
    }

    /** "and its gm identity != r": clock 0 hears of itself over every new link, from near and far. */
    private static void refusesTheReceiversOwnIdentity(Due due) {
        GrandClock x = Scenes.chain(7, 2);
        x.run(30);
        for (int c = 2; c < 7; c++) {
            x.addLink(c, 0, 0, 0);
        }
        x.run(1);
        for (int c = 2; c < 7; c++) {
            due.cleared(x, 0, 4 + c);
            due.message(x, c, 4 + c, 128, 248, 254, 65535, 128, 0, 0, 0);
        }
    }

    /** The sender's own identity and worse vectors than the receiver's are accepted. */
    private static void acceptsAnotherIdentityThanTheReceivers(Due due) {
        GrandClock x = new GrandClock(2, 1, 2);
        x.setPriority(1, 255, 255);
        x.setQuality(1, 255, 255, 65535);
        x.run(1);
        x.addLink(0, 1, 0, 0);
        x.run(1);
        due.message(x, 0, 0, 255, 255, 255, 65535, 255, 1, 0, 1);
        due.follows(x, 0, 0, -1, 0);
    }

    private static void age(Due due, GrandClock x, int c, int link, int want) {
        due.call(x.getAnnounce(c, link, GrandClock.F_VALID), 1, "getAnnounce", c, link, GrandClock.F_VALID);
        due.call(x.getAnnounce(c, link, GrandClock.F_AGE), want, "getAnnounce", c, link, GrandClock.F_AGE);
    }

    /** "its age increases by 1, and if the age now equals T the store is cleared": from 0 over T - 1 to T. */
    private static void agesUntilCleared(Due due, GrandClock x, int c, int link, int timeout) {
        int[] says = {x.getPortState(1, link), x.getGrandmaster(1), x.getStepsRemoved(1)};
        for (int age = 0; age < timeout; age++) {
            age(due, x, c, link, age);
            due.call(x.getPortState(1, link), says[0], "getPortState", 1, link);
            due.call(x.getGrandmaster(1), says[1], "getGrandmaster", 1);
            due.call(x.getStepsRemoved(1), says[2], "getStepsRemoved", 1);
            x.run(1);
        }
        due.cleared(x, c, link);
    }

    /** "nothing was sent to F": clock 1 announces once and is a slave then. */
    private static void agesWhenNothingIsSent(Due due, int timeout) {
        GrandClock x = Scenes.pair(timeout, 0, 0);
        x.run(1);
        due.message(x, 0, 0, 128, 248, 254, 65535, 128, 1, 0, 1);
        due.states(x, 0, 0, GrandClock.MASTER, 1, GrandClock.SLAVE);
        agesUntilCleared(due, x, 0, 0, timeout);
    }

    /** Clock 0 on clock 1, and a ring of the clocks from 1 on, round which an old vector of 0 can go. */
    private static GrandClock tailedRing(int clocks, int timeout) {
        GrandClock x = new GrandClock(clocks, 16, timeout);
        for (int c = 0; c + 1 < clocks; c++) {
            x.addLink(c, c + 1, 0, 0);
        }
        x.addLink(clocks - 1, 1, 0, 0);
        x.run(7 * timeout + 8);
        return x;
    }

    /** "or the message was not accepted": clock 0 is cut off, and its vector comes round to 1 with 7 steps. */
    private static void agesWhenTooManyStepsAreSent(Due due, int timeout) {
        GrandClock x = tailedRing(4, timeout);
        x.setLinkUp(0, false);
        x.run(6);
        due.call(x.getPortState(1, 1), GrandClock.MASTER, "getPortState", 1, 1);
        due.follows(x, 1, 0, 3, 7);
        agesUntilCleared(due, x, 2, 1, timeout);
    }

    /** "or the message was not accepted": clock 0 turns worse and follows 1, to which its old vector comes round. */
    private static void agesWhenItsOwnIdentityIsSent(Due due, int timeout) {
        GrandClock x = tailedRing(6, timeout);
        x.setPriority(0, 200, 200);
        x.run(6);
        due.message(x, 0, 0, 128, 248, 254, 65535, 128, 1, 0, 1);
        due.call(x.getPortState(1, 0), GrandClock.MASTER, "getPortState", 1, 0);
        due.follows(x, 1, 0, 5, 6);
        agesUntilCleared(due, x, 0, 0, timeout);
        due.follows(x, 0, 0, -1, 0);
    }

    /** "if F's store is not valid, it stays cleared" */
    private static void leavesClearedStoresCleared(Due due) {
        for (int timeout = 1; timeout <= 4; timeout++) {
            GrandClock x = Scenes.pair(timeout, 0, 0);
            x.run(1 + timeout);
            for (int step = 0; step < 12; step++) {
                due.cleared(x, 0, 0);
                x.run(1);
            }
        }
    }

    /** "On acceptance the store of F takes the message's eight fields, with valid 1 and age 0." */
    private static void acceptanceTakesTheAgeAway(Due due) {
        GrandClock x = Scenes.pair(4, 0, 0);
        x.run(3);
        age(due, x, 0, 0, 2);
        x.setPriority(1, 7, 11);
        x.setQuality(1, 8, 9, 10);
        x.run(1);
        age(due, x, 0, 0, 3);
        due.call(x.getAnnounce(0, 0, GrandClock.F_PRIORITY1), 128, "getAnnounce", 0, 0, GrandClock.F_PRIORITY1);
        x.run(1);
        due.message(x, 0, 0, 7, 8, 9, 10, 11, 1, 0, 1);
    }

    /** "If E is MASTER, the clock at E sends its V to F.": a slave end sends nothing. */
    private static void sendsNothingFromSlaves(Due due) {
        GrandClock x = Scenes.chain(3, 1);
        x.run(20);
        due.states(x, 0, 0, GrandClock.MASTER, 1, GrandClock.SLAVE);
        due.states(x, 1, 1, GrandClock.MASTER, 2, GrandClock.SLAVE);
        due.cleared(x, 0, 0);
        due.cleared(x, 1, 1);
        due.message(x, 1, 0, 128, 248, 254, 65535, 128, 0, 0, 0);
        due.message(x, 2, 1, 128, 248, 254, 65535, 128, 0, 1, 1);
    }

    /** "If E is MASTER, the clock at E sends its V to F.": a passive end sends nothing. */
    private static void sendsNothingFromPassiveEnds(Due due) {
        GrandClock x = Scenes.triangle(1);
        x.run(20);
        due.states(x, 1, 1, GrandClock.MASTER, 2, GrandClock.PASSIVE);
        due.cleared(x, 1, 1);
        due.message(x, 2, 1, 128, 248, 254, 65535, 128, 0, 1, 1);
    }

    /** "Ends of down links: nothing happens." */
    private static void leavesEndsOfDownLinks(Due due) {
        GrandClock x = Scenes.triangle(2);
        x.setLinkUp(1, false);
        for (int step = 0; step < 12; step++) {
            due.states(x, 1, 1, GrandClock.DISABLED, 2, GrandClock.DISABLED);
            due.cleared(x, 1, 1);
            due.cleared(x, 2, 1);
            x.run(1);
        }
    }

    /** "This phase uses the port states and vectors of the start of the step." */
    private static void usesStatesOfTheStartOfTheStep(Due due) {
        GrandClock x = Scenes.chain(4, 4);
        x.run(1);
        due.message(x, 3, 2, 128, 248, 254, 65535, 128, 2, 0, 2);
        due.message(x, 2, 2, 128, 248, 254, 65535, 128, 3, 0, 3);
        due.states(x, 2, 2, GrandClock.MASTER, 3, GrandClock.SLAVE);
        x.run(1);
        due.message(x, 3, 2, 128, 248, 254, 65535, 128, 1, 1, 2);
        age(due, x, 2, 2, 1);
    }
}
