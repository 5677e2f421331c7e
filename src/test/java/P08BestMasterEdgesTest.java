/** Promise 8, phase 5 at its edges: no candidate, candidates that differ in one field, ends on down links. */
public final class P08BestMasterEdgesTest {
    public static void main(String[] args) {
        Due due = new Due();
        followsItselfWithoutLinks(due);
        followsItselfWithDownLinksAlone(due);
        followsItselfWithClearedStoresAlone(due);
        isBetterThanItsCandidateByOneField(due);
        comparesItsDatasetWithTheWholeGmTuple(due);
        addsOneStepUpToSeven(due);
        takesCandidatesEqualInAllButTheSender(due);
        isPassiveByTheSenderAlone(due);
        isPassiveByTheStepsAlone(due);
        isMasterByTheStepsAlone(due);
        isMasterWithoutAValidStore(due);
        isMasterWithAWorseGrandmaster(due);
        makesEveryEndMasterAgain(due);
        leavesEndsOnDownLinksOfTheBestClock(due);
        leavesEndsOnDownLinksOfAFollower(due);
        takesDatasetsUpInPhase5Alone(due);
        due.end();
    }

    /** "No candidate": no links at all. */
    private static void followsItselfWithoutLinks(Due due) {
        GrandClock x = new GrandClock(8, 1, 1);
        x.setPriority(7, 255, 254);
        x.run(10);
        due.ownVector(x, 7, 255, 248, 254, 65535, 254);
        due.follows(x, 7, 7, -1, 0);
    }

    /** "The candidates are the valid stores of c's ends on up links." */
    private static void followsItselfWithDownLinksAlone(Due due) {
        GrandClock x = Scenes.triangle(4);
        x.run(10);
        due.follows(x, 2, 0, 0, 1);
        x.setLinkUp(1, false);
        x.setLinkUp(2, false);
        x.run(1);
        due.ownVector(x, 2, 128, 248, 254, 65535, 128);
        due.follows(x, 2, 2, -1, 0);
        due.follows(x, 1, 0, 0, 1);
    }

    /** "No candidate": both clocks are slaves and silent until clock 0 has no store left, worse than 1 though it is. */
    private static void followsItselfWithClearedStoresAlone(Due due) {
        GrandClock x = Scenes.pair(2, 0, 0);
        x.run(1);
        x.setPriority(0, 200, 200);
        x.run(1);
        due.follows(x, 0, 1, 1, 1);
        due.states(x, 0, 0, GrandClock.SLAVE, 1, GrandClock.SLAVE);
        x.run(1);
        due.cleared(x, 0, 0);
        due.follows(x, 0, 0, -1, 0);
        due.ownVector(x, 0, 200, 248, 254, 65535, 200);
        due.states(x, 0, 0, GrandClock.MASTER, 1, GrandClock.SLAVE);
    }

    private static void setDataset(GrandClock x, int c, int[] fields) {
        x.setPriority(c, fields[0], fields[4]);
        x.setQuality(c, fields[1], fields[2], fields[3]);
    }

    /** "the gm tuple of D(c) is better than the gm tuple of E": by 1 in one field, and equal in the others. */
    private static void isBetterThanItsCandidateByOneField(Due due) {
        for (int field = 0; field < 5; field++) {
            for (int better = 0; better <= 1; better++) {
                int[] good = {100, 100, 100, 100, 100};
                int[] bad = {100, 100, 100, 100, 100};
                good[field] = 99;
                GrandClock x = Scenes.pair(4, 0, 0);
                setDataset(x, better, good);
                setDataset(x, 1 - better, bad);
                x.run(2);
                due.follows(x, better, better, -1, 0);
                due.follows(x, 1 - better, better, better, 1);
            }
        }
        GrandClock identities = Scenes.pair(4, 0, 0);
        identities.run(1);
        due.follows(identities, 0, 0, -1, 0);
        due.follows(identities, 1, 0, 0, 1);
    }

    /** Clock 2 is better by the last field but the identity, then equal in it, and the identity decides. */
    private static void comparesItsDatasetWithTheWholeGmTuple(Due due) {
        GrandClock x = Scenes.chain(3, 4);
        x.setPriority(0, 127, 127);
        x.run(5);
        due.follows(x, 2, 0, 1, 2);
        x.setPriority(2, 127, 126);
        x.run(1);
        due.message(x, 2, 1, 127, 248, 254, 65535, 127, 0, 1, 1);
        due.follows(x, 2, 2, -1, 0);
        x.setPriority(2, 127, 127);
        x.run(1);
        due.follows(x, 2, 0, 1, 2);
    }

    /** "V(c) = (gm tuple of E, E.stepsRemoved + 1, c)" */
    private static void addsOneStepUpToSeven(Due due) {
        GrandClock x = Scenes.chain(8, 1);
        x.run(15);
        for (int c = 0; c < 8; c++) {
            due.message(x, c, -1, 128, 248, 254, 65535, 128, 0, c, c);
        }
    }

    /** "the best candidate, compared as a vector": equal in all but the last field, from two to six neighbours. */
    private static void takesCandidatesEqualInAllButTheSender(Due due) {
        for (int neighbours = 2; neighbours <= 6; neighbours++) {
            GrandClock x = new GrandClock(8, 16, 2);
            for (int c = neighbours; c >= 1; c--) {
                x.addLink(7, c, 0, 0);
            }
            for (int c = 1; c <= neighbours; c++) {
                x.addLink(c, 0, 0, 0);
            }
            x.run(2);
            due.follows(x, 7, 0, 1, 2);
            due.states(x, neighbours - 1, 1, GrandClock.MASTER, 7, GrandClock.SLAVE);
            for (int link = 0; link + 1 < neighbours; link++) {
                due.call(x.getPortState(7, link), GrandClock.PASSIVE, "getPortState", 7, link);
            }
        }
    }

    /** Clocks 1 and 2 hear of 0 over branches; the last link joins two of the clocks on them. */
    private static GrandClock branches(int a, int b) {
        GrandClock x = new GrandClock(6, 6, 3);
        x.addLink(0, 1, 0, 0);
        x.addLink(1, 2, 0, 0);
        x.addLink(0, 3, 0, 0);
        x.addLink(3, 4, 0, 0);
        x.addLink(4, 5, 0, 0);
        x.run(30);
        x.addLink(a, b, 0, 0);
        x.run(1);
        return x;
    }

    /** "PASSIVE if its store is valid and better than the new V(c) as a vector": as many steps on both sides. */
    private static void isPassiveByTheSenderAlone(Due due) {
        GrandClock x = branches(2, 4);
        due.message(x, 2, 5, 128, 248, 254, 65535, 128, 0, 2, 4);
        due.message(x, 4, 5, 128, 248, 254, 65535, 128, 0, 2, 2);
        due.follows(x, 2, 0, 1, 2);
        due.follows(x, 4, 0, 3, 2);
        due.states(x, 5, 2, GrandClock.MASTER, 4, GrandClock.PASSIVE);
    }

    /** "PASSIVE if its store is valid and better": clock 5 now follows 2; the store from 4 has one step less than V(5). */
    private static void isPassiveByTheStepsAlone(Due due) {
        GrandClock x = branches(2, 5);
        due.follows(x, 5, 0, 2, 3);
        due.message(x, 5, 4, 128, 248, 254, 65535, 128, 0, 2, 4);
        due.states(x, 4, 4, GrandClock.MASTER, 5, GrandClock.PASSIVE);
        due.states(x, 5, 2, GrandClock.MASTER, 5, GrandClock.SLAVE);
    }

    /** "and MASTER otherwise": the store at 5 has one step more than its vector, and a smaller sender. */
    private static void isMasterByTheStepsAlone(Due due) {
        GrandClock x = new GrandClock(6, 6, 3);
        x.addLink(0, 5, 0, 0);
        x.addLink(0, 4, 0, 0);
        x.addLink(4, 3, 0, 0);
        x.run(30);
        x.addLink(3, 5, 0, 0);
        x.run(1);
        due.message(x, 5, 3, 128, 248, 254, 65535, 128, 0, 2, 3);
        due.message(x, 5, -1, 128, 248, 254, 65535, 128, 0, 1, 5);
        due.states(x, 3, 3, GrandClock.PASSIVE, 5, GrandClock.MASTER);
    }

    /** "and MASTER otherwise": a cleared store, whose fields of 0 would be better than any. */
    private static void isMasterWithoutAValidStore(Due due) {
        GrandClock x = Scenes.chain(3, 1);
        x.run(10);
        due.cleared(x, 1, 1);
        due.follows(x, 1, 0, 0, 1);
        due.call(x.getPortState(1, 1), GrandClock.MASTER, "getPortState", 1, 1);
    }

    /** "and MASTER otherwise": a store of another grandmaster. */
    private static void isMasterWithAWorseGrandmaster(Due due) {
        GrandClock x = Scenes.chain(3, 4);
        x.run(1);
        due.message(x, 1, 1, 128, 248, 254, 65535, 128, 2, 0, 2);
        due.follows(x, 1, 0, 0, 1);
        due.states(x, 1, 1, GrandClock.MASTER, 2, GrandClock.SLAVE);
    }

    /** "every end of c on an up link becomes MASTER": a slave end, a passive one and a master one. */
    private static void makesEveryEndMasterAgain(Due due) {
        GrandClock x = new GrandClock(4, 4, 4);
        x.addLink(0, 1, 0, 0);
        x.addLink(1, 2, 0, 0);
        x.addLink(2, 0, 0, 0);
        x.addLink(2, 3, 0, 0);
        x.run(20);
        due.call(x.getPortState(2, 1), GrandClock.PASSIVE, "getPortState", 2, 1);
        due.call(x.getPortState(2, 2), GrandClock.SLAVE, "getPortState", 2, 2);
        due.call(x.getPortState(2, 3), GrandClock.MASTER, "getPortState", 2, 3);
        x.setQuality(2, 247, 255, 65535);
        x.run(1);
        for (int link = 1; link <= 3; link++) {
            due.call(x.getPortState(2, link), GrandClock.MASTER, "getPortState", 2, link);
        }
        due.call(x.getParent(2), -1, "getParent", 2);
    }

    /** "Ends on down links stay DISABLED." */
    private static void leavesEndsOnDownLinksOfTheBestClock(Due due) {
        GrandClock x = Scenes.triangle(2);
        x.setLinkUp(0, false);
        for (int step = 0; step < 10; step++) {
            x.run(1);
            due.follows(x, 0, 0, -1, 0);
            due.states(x, 0, 0, GrandClock.DISABLED, 1, GrandClock.DISABLED);
        }
        due.states(x, 2, 2, GrandClock.SLAVE, 0, GrandClock.MASTER);
    }

    /** "Ends on down links stay DISABLED.": clock 1 follows 2 over link 1, and link 0 is down. */
    private static void leavesEndsOnDownLinksOfAFollower(Due due) {
        GrandClock x = Scenes.triangle(2);
        x.run(10);
        x.setLinkUp(0, false);
        x.run(20);
        due.follows(x, 1, 0, 2, 2);
        due.states(x, 0, 0, GrandClock.DISABLED, 1, GrandClock.DISABLED);
        due.states(x, 1, 1, GrandClock.SLAVE, 2, GrandClock.MASTER);
    }

    /** "Changes to D made by setPriority or setQuality take effect in V only through this phase." */
    private static void takesDatasetsUpInPhase5Alone(Due due) {
        GrandClock x = Scenes.pair(4, 0, 0);
        x.run(3);
        x.setPriority(0, 1, 2);
        x.setQuality(0, 3, 4, 5);
        due.ownVector(x, 0, 128, 248, 254, 65535, 128);
        x.run(1);
        due.message(x, 1, 0, 128, 248, 254, 65535, 128, 0, 0, 0);
        due.message(x, 1, -1, 128, 248, 254, 65535, 128, 0, 1, 1);
        due.ownVector(x, 0, 1, 3, 4, 5, 2);
        x.setPriority(1, 0, 0);
        due.message(x, 1, -1, 128, 248, 254, 65535, 128, 0, 1, 1);
        x.run(1);
        due.message(x, 1, 0, 1, 3, 4, 5, 2, 0, 0, 0);
        due.ownVector(x, 1, 0, 248, 254, 65535, 0);
    }
}
