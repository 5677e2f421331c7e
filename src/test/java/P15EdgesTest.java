/** Promise 15 at its edges: clocks, fields and links that do not exist, link -1, and cleared stores. */
public final class P15EdgesTest {
    public static void main(String[] args) {
        Due due = new Due();
        answersMinusOneForAClockThatDoesNotExist(due);
        answersMinusOneForAFieldThatDoesNotExist(due);
        answersTheFirstAndTheLastField(due);
        answersTheVectorForLinkMinusOne(due);
        answersMinusOneForALinkThatDoesNotExist(due);
        answersMinusOneForAClockOfAnotherLink(due);
        answersZeroForAClearedStore(due);
        answersTheAgeOfAStore(due);
        changesNothing(due);
        due.end();
    }

    private static void refused(Due due, GrandClock x, int c, int link, int field) {
        due.call(x.getAnnounce(c, link, field), -1, "getAnnounce", c, link, field);
    }

    private static void fields(Due due, GrandClock x, int c, int link, int... want) {
        for (int field = 0; field <= 9; field++) {
            due.call(x.getAnnounce(c, link, field), want[field], "getAnnounce", c, link, field);
        }
    }

    /** Clock 2 is the master of the line 0, 1, 2, and each field of its dataset another number. */
    private static GrandClock line() {
        GrandClock x = Scenes.chain(3, 4);
        x.setPriority(2, 11, 15);
        x.setQuality(2, 12, 13, 14);
        x.run(20);
        return x;
    }

    /** "answers -1 if c is not in 0..N-1": with a link, with link -1, and with neither. */
    private static void answersMinusOneForAClockThatDoesNotExist(Due due) {
        for (int n = 2; n <= 8; n++) {
            GrandClock x = Scenes.ring(n);
            for (int c : Scenes.outside(n)) {
                for (int field = 0; field <= 9; field++) {
                    refused(due, x, c, 0, field);
                    refused(due, x, c, -1, field);
                    refused(due, x, c, -2, field);
                }
            }
            refused(due, x, 8, -1, GrandClock.F_VALID);
        }
    }

    /** "or field is not in 0..9": at -1 and 10, and beyond them, for a store, a vector and no link. */
    private static void answersMinusOneForAFieldThatDoesNotExist(Due due) {
        GrandClock x = line();
        for (int field : Scenes.outside(10)) {
            refused(due, x, 1, 1, field);
            refused(due, x, 1, 0, field);
            refused(due, x, 1, -1, field);
            refused(due, x, 1, 2, field);
            refused(due, x, 3, -1, field);
        }
    }

    /** "it answers the chosen field of the store at c's end of that link": 0, 9 and those between them. */
    private static void answersTheFirstAndTheLastField(Due due) {
        GrandClock x = line();
        due.call(x.getAnnounce(1, 1, 0), 1, "getAnnounce", 1, 1, 0);
        due.call(x.getAnnounce(1, 1, 9), 15, "getAnnounce", 1, 1, 9);
        due.call(x.getAnnounce(1, -1, 0), 1, "getAnnounce", 1, -1, 0);
        due.call(x.getAnnounce(1, -1, 9), 15, "getAnnounce", 1, -1, 9);
        fields(due, x, 1, 1, 1, 2, 0, 0, 2, 11, 12, 13, 14, 15);
        fields(due, x, 0, 0, 1, 2, 1, 0, 1, 11, 12, 13, 14, 15);
    }

    /** "If link = -1, it answers from the vector V(c) read as a store": with links, without, and with them down. */
    private static void answersTheVectorForLinkMinusOne(Due due) {
        GrandClock x = line();
        fields(due, x, 0, -1, 1, 2, 2, 0, 0, 11, 12, 13, 14, 15);
        fields(due, x, 1, -1, 1, 2, 1, 0, 1, 11, 12, 13, 14, 15);
        fields(due, x, 2, -1, 1, 2, 0, 0, 2, 11, 12, 13, 14, 15);
        x.setLinkUp(0, false);
        x.setLinkUp(1, false);
        fields(due, x, 0, -1, 1, 2, 2, 0, 0, 11, 12, 13, 14, 15);
        for (int n = 2; n <= 8; n++) {
            GrandClock alone = new GrandClock(n, 1, 1);
            fields(due, alone, 0, -1, 1, 0, 0, 0, 0, 128, 248, 254, 65535, 128);
            fields(due, alone, n - 1, -1, 1, n - 1, 0, 0, n - 1, 128, 248, 254, 65535, 128);
        }
    }

    /** "For any other link value, it answers -1 if link is not an existing link index" */
    private static void answersMinusOneForALinkThatDoesNotExist(Due due) {
        for (int n = 3; n <= 8; n++) {
            GrandClock x = Scenes.ring(n);
            for (int link : Scenes.outside(n)) {
                for (int field = 0; field <= 9 && link != -1; field++) {
                    refused(due, x, 0, link, field);
                    refused(due, x, n - 1, link, field);
                }
            }
            refused(due, x, 0, -2, GrandClock.F_GM);
            refused(due, x, 0, 15, GrandClock.F_GM);
            refused(due, x, 0, 16, GrandClock.F_GM);
        }
        GrandClock empty = new GrandClock(2, 16, 1);
        refused(due, empty, 0, 0, GrandClock.F_VALID);
        refused(due, empty, 1, 0, GrandClock.F_VALID);
    }

    /** "or c is not a clock of it", though the link's own clocks have an answer. */
    private static void answersMinusOneForAClockOfAnotherLink(Due due) {
        GrandClock x = Scenes.ring(8);
        for (int link = 0; link < 8; link++) {
            for (int c = 0; c < 8; c++) {
                boolean joined = c == link || c == (link + 1) % 8;
                for (int field = 0; field <= 9; field++) {
                    due.that((x.getAnnounce(c, link, field) == -1) == !joined, c + " is a clock of " + link);
                }
            }
        }
    }

    /** "A cleared store answers 0 for every field.": of a new link, a down one, one up again, and a timeout. */
    private static void answersZeroForAClearedStore(Due due) {
        GrandClock x = line();
        due.cleared(x, 2, 1);
        x.addLink(0, 2, 0, 0);
        due.cleared(x, 0, 2);
        due.cleared(x, 2, 2);
        x.setLinkUp(0, false);
        due.cleared(x, 0, 0);
        due.cleared(x, 1, 0);
        x.setLinkUp(0, true);
        due.cleared(x, 0, 0);
    }

    /** "F_AGE: the age": 3, one before the store is cleared, while the vectors have age 0. */
    private static void answersTheAgeOfAStore(Due due) {
        GrandClock x = Scenes.pair(4, 0, 0);
        x.run(4);
        fields(due, x, 0, 0, 1, 1, 0, 3, 1, 128, 248, 254, 65535, 128);
        fields(due, x, 0, -1, 1, 0, 0, 0, 0, 128, 248, 254, 65535, 128);
        x.run(1);
        due.cleared(x, 0, 0);
    }

    /** "Nothing changes." */
    private static void changesNothing(Due due) {
        GrandClock x = Scenes.busy();
        for (int c = -1; c <= 5; c++) {
            for (int link : Scenes.outside(7)) {
                for (int field = -1; field <= 10; field++) {
                    x.getAnnounce(c, link, field);
                }
            }
            for (int field : Scenes.outside(10)) {
                x.getAnnounce(c, 0, field);
                x.getAnnounce(c, -1, field);
            }
        }
        due.twins(x, Scenes.busy(), "getAnnounce");
    }
}
