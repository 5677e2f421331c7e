/** Promise 7 at its edges: links that do not exist, the four cases of up and down, and what waits for phase 5. */
public final class P07EdgesTest {
    public static void main(String[] args) {
        Due due = new Due();
        refusesLinksThatDoNotExist(due);
        acceptsTheFirstAndTheLastLink(due);
        leavesAnUpLinkUp(due);
        leavesADownLinkDown(due);
        takesAnUpLinkDown(due);
        takesADownLinkUp(due);
        takesALinkDownAndUpBetweenSteps(due);
        keepsParentsAndVectorsUntilPhase5(due);
        announcesTheOldVectorOnceMore(due);
        touchesNothingElse(due);
        due.end();
    }

    /** "is refused when link is not an existing link index: it answers false and nothing changes" */
    private static void refusesLinksThatDoNotExist(Due due) {
        for (int n = 3; n <= 8; n++) {
            GrandClock x = Scenes.ring(n);
            for (int link : Scenes.outside(n)) {
                due.call(x.setLinkUp(link, false), false, "setLinkUp", link, 0);
                due.call(x.setLinkUp(link, true), false, "setLinkUp", link, 1);
            }
            due.twins(x, Scenes.ring(n), "refused calls of setLinkUp with " + n + " links");
        }
        GrandClock empty = new GrandClock(8, 16, 1);
        for (int link : Scenes.outside(0)) {
            due.call(empty.setLinkUp(link, false), false, "setLinkUp", link, 0);
        }
        due.twins(empty, new GrandClock(8, 16, 1), "refused calls of setLinkUp without links");
    }

    private static void acceptsTheFirstAndTheLastLink(Due due) {
        GrandClock x = new GrandClock(8, 16, 1);
        for (int a = 0; a < 8; a++) {
            for (int b = a + 1; b < 8; b++) {
                x.addLink(a, b, 0, 0);
            }
        }
        due.call(x.setLinkUp(0, false), true, "setLinkUp", 0, 0);
        due.call(x.setLinkUp(15, false), true, "setLinkUp", 15, 0);
        due.call(x.setLinkUp(16, false), false, "setLinkUp", 16, 0);
        due.states(x, 0, 0, GrandClock.DISABLED, 1, GrandClock.DISABLED);
        due.states(x, 1, 0, GrandClock.MASTER, 2, GrandClock.MASTER);
        due.states(x, 14, 2, GrandClock.MASTER, 4, GrandClock.MASTER);
        due.states(x, 15, 2, GrandClock.DISABLED, 5, GrandClock.DISABLED);
    }

    /** "If up is true and the link is already up, ... it answers true and nothing changes." */
    private static void leavesAnUpLinkUp(Due due) {
        GrandClock x = Scenes.busy();
        for (int link = 0; link < 6; link++) {
            due.call(x.setLinkUp(link, true), true, "setLinkUp", link, 1);
        }
        due.twins(x, Scenes.busy(), "setLinkUp true of links that are up");
    }

    /** "or up is false and the link is already down, it answers true and nothing changes." */
    private static void leavesADownLinkDown(Due due) {
        GrandClock x = Scenes.busy();
        due.call(x.setLinkUp(6, false), true, "setLinkUp", 6, 0);
        due.call(x.setLinkUp(6, false), true, "setLinkUp", 6, 0);
        due.states(x, 6, 2, GrandClock.DISABLED, 4, GrandClock.DISABLED);
        due.twins(x, Scenes.busy(), "setLinkUp false of a link that is down");
    }

    /** "the link goes down, both ends become DISABLED and both stores are cleared" */
    private static void takesAnUpLinkDown(Due due) {
        GrandClock x = Scenes.triangle(4);
        x.run(2);
        due.call(x.getAnnounce(1, 1, GrandClock.F_VALID), 1, "getAnnounce", 1, 1, 0);
        due.call(x.getAnnounce(2, 1, GrandClock.F_VALID), 1, "getAnnounce", 2, 1, 0);
        due.states(x, 1, 1, GrandClock.MASTER, 2, GrandClock.PASSIVE);
        due.call(x.setLinkUp(1, false), true, "setLinkUp", 1, 0);
        due.states(x, 1, 1, GrandClock.DISABLED, 2, GrandClock.DISABLED);
        due.cleared(x, 1, 1);
        due.cleared(x, 2, 1);
        x.run(64);
        due.states(x, 1, 1, GrandClock.DISABLED, 2, GrandClock.DISABLED);
        due.cleared(x, 1, 1);
        due.cleared(x, 2, 1);
    }

    /** "the link goes up, both ends become MASTER and both stores are cleared" */
    private static void takesADownLinkUp(Due due) {
        GrandClock x = Scenes.triangle(4);
        x.setLinkUp(1, false);
        x.run(5);
        due.call(x.setLinkUp(1, true), true, "setLinkUp", 1, 1);
        due.states(x, 1, 1, GrandClock.MASTER, 2, GrandClock.MASTER);
        due.cleared(x, 1, 1);
        due.cleared(x, 2, 1);
        x.run(1);
        due.message(x, 1, 1, 128, 248, 254, 65535, 128, 0, 1, 2);
        due.message(x, 2, 1, 128, 248, 254, 65535, 128, 0, 1, 1);
        due.states(x, 1, 1, GrandClock.MASTER, 2, GrandClock.PASSIVE);
    }

    /** No step sees the link down, but its stores and states are those of a new one. */
    private static void takesALinkDownAndUpBetweenSteps(Due due) {
        GrandClock x = Scenes.pair(4, 0, 0);
        x.run(2);
        x.setLinkUp(0, false);
        x.setLinkUp(0, true);
        due.states(x, 0, 0, GrandClock.MASTER, 1, GrandClock.MASTER);
        due.cleared(x, 0, 0);
        due.cleared(x, 1, 0);
        x.run(1);
        due.cleared(x, 0, 0);
        due.message(x, 1, 0, 128, 248, 254, 65535, 128, 0, 0, 0);
        due.states(x, 0, 0, GrandClock.MASTER, 1, GrandClock.SLAVE);
    }

    /** "parent(c), parentLink(c) and V(c) stay as they were until phase 5 of the next step." */
    private static void keepsParentsAndVectorsUntilPhase5(Due due) {
        GrandClock x = Scenes.chain(3, 4);
        x.run(5);
        x.setLinkUp(0, false);
        x.setLinkUp(1, false);
        for (int zero = 0; zero < 2; zero++) {
            due.follows(x, 0, 0, -1, 0);
            due.follows(x, 1, 0, 0, 1);
            due.follows(x, 2, 0, 1, 2);
            due.message(x, 1, -1, 128, 248, 254, 65535, 128, 0, 1, 1);
            due.message(x, 2, -1, 128, 248, 254, 65535, 128, 0, 2, 2);
            x.run(0);
        }
        x.run(1);
        due.follows(x, 1, 1, -1, 0);
        due.follows(x, 2, 2, -1, 0);
    }

    /** Phase 4 of that step still sends the vector that stayed. */
    private static void announcesTheOldVectorOnceMore(Due due) {
        GrandClock x = Scenes.chain(3, 4);
        x.run(5);
        x.setLinkUp(0, false);
        x.run(1);
        due.message(x, 2, 1, 128, 248, 254, 65535, 128, 0, 1, 1);
        due.follows(x, 2, 0, 1, 2);
        x.run(1);
        due.message(x, 2, 1, 128, 248, 254, 65535, 128, 1, 0, 1);
        due.follows(x, 2, 1, 1, 1);
    }

    /** "Nothing else changes.": a new link that goes down and up before the first step was never touched. */
    private static void touchesNothingElse(Due due) {
        GrandClock x = Scenes.triangle(3);
        GrandClock twin = Scenes.triangle(3);
        x.setTime(1, 1234567L);
        twin.setTime(1, 1234567L);
        for (int link = 0; link < 3; link++) {
            x.setLinkUp(link, false);
        }
        for (int link = 0; link < 3; link++) {
            x.setLinkUp(link, true);
        }
        due.twins(x, twin, "all links down and up before the first step");
        GrandClock busy = Scenes.busy();
        busy.setLinkUp(6, true);
        busy.setLinkUp(6, false);
        due.twins(busy, Scenes.busy(), "a down link up and down again");
    }
}
