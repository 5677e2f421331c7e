/** Promise 15: getAnnounce. */
public final class P15GetAnnounceTest {
    private static final int[] NO_FIELDS = {Integer.MIN_VALUE, -10, -1, 10, 11, 100, Integer.MAX_VALUE};
    private static final int[] NO_LINKS = {Integer.MIN_VALUE, -3, -2, 2, 3, 15, 16, Integer.MAX_VALUE};
    private static final int[] NO_CLOCKS = {Integer.MIN_VALUE, -1, 3, 4, 8, Integer.MAX_VALUE};

    public static void main(String[] args) {
        Due due = new Due();
        answersEachField(due);
        answersTheVector(due);
        answersClearedStores(due);
        answersForWrongIndices(due);
        changesNothing(due);
        due.end();
    }

    /** The chain 0, 1, 2 with clock 2 as its master, every field of whose dataset is another number. */
    private static GrandClock chain() {
        GrandClock x = Scenes.chain(3, 3);
        x.setPriority(2, 11, 15);
        x.setQuality(2, 12, 13, 14);
        x.run(20);
        return x;
    }

    private static void checkFields(Due due, GrandClock x, int c, int link, int... want) {
        for (int field = 0; field <= 9; field++) {
            due.call(x.getAnnounce(c, link, field), want[field], "getAnnounce", c, link, field);
        }
    }

    private static void answersEachField(Due due) {
        GrandClock x = chain();
        checkFields(due, x, 1, 1, 1, 2, 0, 0, 2, 11, 12, 13, 14, 15);
        checkFields(due, x, 0, 0, 1, 2, 1, 0, 1, 11, 12, 13, 14, 15);

        GrandClock aged = Scenes.pair(4, 0, 0);
        aged.setPriority(1, 130, 131);
        aged.run(4);
        checkFields(due, aged, 0, 0, 1, 1, 0, 3, 1, 128, 248, 254, 65535, 128);
        checkFields(due, aged, 1, 0, 1, 0, 0, 0, 0, 128, 248, 254, 65535, 128);
    }

    private static void answersTheVector(Due due) {
        GrandClock x = chain();
        checkFields(due, x, 2, -1, 1, 2, 0, 0, 2, 11, 12, 13, 14, 15);
        checkFields(due, x, 1, -1, 1, 2, 1, 0, 1, 11, 12, 13, 14, 15);
        checkFields(due, x, 0, -1, 1, 2, 2, 0, 0, 11, 12, 13, 14, 15);
        checkFields(due, new GrandClock(8, 1, 1), 7, -1, 1, 7, 0, 0, 7, 128, 248, 254, 65535, 128);
    }

    private static void answersClearedStores(Due due) {
        GrandClock x = chain();
        due.cleared(x, 1, 0);
        due.cleared(x, 2, 1);
        x.setLinkUp(1, false);
        due.cleared(x, 1, 1);
    }

    private static void answersForWrongIndices(Due due) {
        GrandClock x = chain();
        for (int field = 0; field <= 9; field++) {
            refused(due, x, 2, 0, field);
            refused(due, x, 0, 1, field);
            for (int link : NO_LINKS) {
                refused(due, x, 1, link, field);
            }
            for (int c : NO_CLOCKS) {
                refused(due, x, c, 0, field);
                refused(due, x, c, -1, field);
            }
        }
        for (int field : NO_FIELDS) {
            refused(due, x, 1, 1, field);
            refused(due, x, 1, -1, field);
            refused(due, x, 1, 5, field);
        }
    }

    private static void refused(Due due, GrandClock x, int c, int link, int field) {
        due.call(x.getAnnounce(c, link, field), -1, "getAnnounce", c, link, field);
    }

    private static void changesNothing(Due due) {
        GrandClock x = Scenes.busy();
        Seen.state(x);
        due.twins(x, Scenes.busy(), "getAnnounce");
    }
}
