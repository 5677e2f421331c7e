/** Promise 16 at its edges: clocks outside, equal clocks, datasets that differ in one field, the strict total order. */
public final class P16EdgesTest {
    private static final int[] GREATEST = {255, 255, 255, 65535, 255};

    public static void main(String[] args) {
        Due due = new Due();
        answersZeroForAnAOutside(due);
        answersZeroForABOutside(due);
        answersZeroForEqualClocks(due);
        decidesByOneFieldAlone(due);
        decidesByTheIdentityAlone(due);
        usesDatasetsAndNotVectors(due);
        answersZeroForEqualClocksOnly(due);
        answersTheContraryTheOtherWayRound(due);
        isTransitive(due);
        changesNothing(due);
        due.end();
    }

    private static void setDataset(GrandClock x, int c, int... fields) {
        x.setPriority(c, fields[0], fields[4]);
        x.setQuality(c, fields[1], fields[2], fields[3]);
    }

    private static void compared(Due due, GrandClock x, int a, int b, int want) {
        due.call(x.compareDatasets(a, b), want, "compareDatasets", a, b);
    }

    /** "answers 0 if a or b is not in 0..N-1" */
    private static void answersZeroForAnAOutside(Due due) {
        for (int n = 2; n <= 8; n++) {
            GrandClock x = Scenes.ring(n);
            for (int a : Scenes.outside(n)) {
                for (int b = 0; b < n; b++) {
                    compared(due, x, a, b, 0);
                }
            }
            compared(due, x, 8, 0, 0);
        }
    }

    /** "answers 0 if a or b is not in 0..N-1" */
    private static void answersZeroForABOutside(Due due) {
        for (int n = 2; n <= 8; n++) {
            GrandClock x = Scenes.ring(n);
            for (int b : Scenes.outside(n)) {
                for (int a = 0; a < n; a++) {
                    compared(due, x, a, b, 0);
                }
                compared(due, x, b, -1, 0);
                compared(due, x, b, n, 0);
            }
            compared(due, x, 0, 8, 0);
        }
    }

    /** "or if a == b", inside and outside. */
    private static void answersZeroForEqualClocks(Due due) {
        for (int n = 2; n <= 8; n++) {
            GrandClock x = Scenes.ring(n);
            for (int c = 0; c < n; c++) {
                compared(due, x, c, c, 0);
            }
            for (int c : Scenes.outside(n)) {
                compared(due, x, c, c, 0);
            }
        }
    }

    /** "It answers -1 if D(a) is better and 1 if D(b) is better.": by 1 or by as much as can be, in one field. */
    private static void decidesByOneFieldAlone(Due due) {
        for (int field = 0; field < 5; field++) {
            for (int better = 0; better <= 1; better++) {
                int greatest = GREATEST[field];
                differ(due, field, better, 0, 1);
                differ(due, field, better, 0, greatest);
                differ(due, field, better, 127, 128);
                differ(due, field, better, greatest - 1, greatest);
            }
        }
        differ(due, 3, 1, 255, 256);
        differ(due, 3, 1, 32767, 32768);
    }

    private static void differ(Due due, int field, int better, int smaller, int larger) {
        GrandClock x = new GrandClock(2, 1, 1);
        int[] good = {100, 100, 100, 100, 100};
        int[] bad = {100, 100, 100, 100, 100};
        good[field] = smaller;
        bad[field] = larger;
        setDataset(x, better, good);
        setDataset(x, 1 - better, bad);
        compared(due, x, better, 1 - better, -1);
        compared(due, x, 1 - better, better, 1);
    }

    /** "which include the identity" */
    private static void decidesByTheIdentityAlone(Due due) {
        GrandClock x = new GrandClock(8, 1, 1);
        for (int c = 0; c < 8; c++) {
            setDataset(x, c, 1, 2, 3, 4, 5);
        }
        for (int a = 0; a < 8; a++) {
            for (int b = 0; b < 8; b++) {
                compared(due, x, a, b, a < b ? -1 : a > b ? 1 : 0);
            }
        }
    }

    /** "It uses the current default datasets, not the vectors." */
    private static void usesDatasetsAndNotVectors(Due due) {
        GrandClock x = Scenes.pair(4, 0, 0);
        x.run(5);
        due.call(x.getGrandmaster(1), 0, "getGrandmaster", 1);
        x.setPriority(1, 127, 255);
        compared(due, x, 0, 1, 1);
        x.setPriority(1, 129, 0);
        compared(due, x, 0, 1, -1);
        x.setQuality(0, 255, 255, 65535);
        compared(due, x, 0, 1, -1);
        x.setPriority(1, 128, 128);
        compared(due, x, 0, 1, 1);
        due.call(x.getGrandmaster(1), 0, "getGrandmaster", 1);
    }

    /** Eight clocks whose datasets are alike in many fields. */
    private static GrandClock thrown(Dice dice) {
        GrandClock x = new GrandClock(8, 1, 1);
        for (int c = 0; c < 8; c++) {
            setDataset(x, c, 254 + dice.roll(3), dice.roll(2), dice.roll(2), 65534 + dice.roll(3), dice.roll(2));
        }
        return x;
    }

    /** "for a and b both in 0..N-1, it answers 0 only for a == b" */
    private static void answersZeroForEqualClocksOnly(Due due) {
        Dice dice = new Dice(161L);
        for (int run = 0; run < 200; run++) {
            GrandClock x = thrown(dice);
            for (int a = 0; a < 8; a++) {
                for (int b = 0; b < 8; b++) {
                    due.that((x.compareDatasets(a, b) == 0) == (a == b), "0 for " + a + " and " + b);
                }
            }
        }
    }

    /** "compareDatasets(a, b) = -compareDatasets(b, a)" */
    private static void answersTheContraryTheOtherWayRound(Due due) {
        Dice dice = new Dice(162L);
        for (int run = 0; run < 200; run++) {
            GrandClock x = thrown(dice);
            for (int a = 0; a < 8; a++) {
                for (int b = 0; b < a; b++) {
                    int answer = x.compareDatasets(a, b);
                    due.that(answer == -1 || answer == 1, "-1 or 1 for " + a + " and " + b);
                    compared(due, x, b, a, -answer);
                }
            }
        }
    }

    /** "for clocks in 0..N-1, it is transitive" */
    private static void isTransitive(Due due) {
        Dice dice = new Dice(163L);
        for (int run = 0; run < 200; run++) {
            GrandClock x = thrown(dice);
            for (int i = 0; i < 8 * 8 * 8; i++) {
                int a = i / 64;
                int b = i / 8 % 8;
                int c = i % 8;
                if (x.compareDatasets(a, b) == -1 && x.compareDatasets(b, c) == -1) {
                    compared(due, x, a, c, -1);
                }
            }
        }
    }

    /** "Nothing changes." */
    private static void changesNothing(Due due) {
        GrandClock x = Scenes.busy();
        for (int a : Scenes.outside(5)) {
            for (int b = -1; b <= 5; b++) {
                x.compareDatasets(a, b);
                x.compareDatasets(b, a);
            }
        }
        for (int i = 0; i < 25; i++) {
            x.compareDatasets(i / 5, i % 5);
        }
        due.twins(x, Scenes.busy(), "compareDatasets");
    }
}
