/** Promise 1: a new object. */
public final class Promise01NewObjectTest {
    private static final int LEAST = Scenes.LEAST;
    private static final int GREATEST = Scenes.GREATEST;
    private static final Checks CHECKS = new Checks();

    public static void main(String[] args) {
        seriesAreOneToEight();
        mostIsTwoToSixtyFour();
        mostBindsCompactToo();
        ratioIsTwoToEight();
        ratioBindsLooksToo();
        allThreeAtOnce();
        hasNoPoints();
        powerDoesNotGo();
        isUsedFor512Calls();
        CHECKS.done();
    }

    private static void seriesAreOneToEight() {
        CHECKS.promise(1, "N (1 to 8); of another number the nearest of these");
        int[][] toldAndDue = {
            {LEAST, 1}, {-8, 1}, {-1, 1}, {0, 1}, {1, 1}, {2, 2}, {3, 3}, {7, 7}, {8, 8}, {9, 8}, {16, 8}, {GREATEST, 8},
        };
        for (int[] row : toldAndDue) {
            Ledger x = new Ledger(row[0], 4, 2);
            for (int s = 0; s < row[1]; s++) {
                CHECKS.same("series " + row[0] + ": append to " + s, x.append(s, 0, 0), 0);
            }
            CHECKS.same("series " + row[0] + ": append behind", x.append(row[1], 0, 0), PointLedger.BAD_SERIES);
            CHECKS.same("series " + row[0] + ": flush()", x.flush(), row[1]);
        }
    }

    private static void mostIsTwoToSixtyFour() {
        CHECKS.promise(1, "MOST (2 to 64); of another number the nearest of these");
        int[][] toldAndDue = {
            {LEAST, 2}, {-64, 2}, {0, 2}, {1, 2}, {2, 2}, {3, 3}, {63, 63}, {64, 64}, {65, 64}, {128, 64}, {GREATEST, 64},
        };
        for (int[] row : toldAndDue) {
            Ledger x = new Ledger(1, row[0], 2);
            for (int t = 0; t < 65; t++) {
                x.append(0, t, 0);
            }
            x.flush();
            CHECKS.same("most " + row[0] + ": points of a chunk", x.chunk(0, 0, 2), row[1]);
            CHECKS.same("most " + row[0] + ": chunks", x.sizes(0, 0), (65 + row[1] - 1) / row[1]);
        }
    }

    private static void mostBindsCompactToo() {
        CHECKS.promise(1, "MOST: of another number the nearest of these, for compact() too");
        Ledger x = new Ledger(1, 1, 2);
        Scenes.sealEach(x, 0, 1, 1, 1);
        CHECKS.same("most 1: compact(0) of 1, 1, 1", x.compact(0), 1);
        CHECKS.same("most 1: points of the first", x.chunk(0, 0, 2), 2);
        Ledger y = new Ledger(1, 65, 2);
        Scenes.sealEach(y, 0, 32, 32, 1);
        CHECKS.same("most 65: compact(0) of 32, 32, 1", y.compact(0), 1);
        CHECKS.same("most 65: points of the first", y.chunk(0, 0, 2), 64);
    }

    private static void ratioIsTwoToEight() {
        CHECKS.promise(1, "RATIO (2 to 8); of another number the nearest of these");
        int[][] toldAndDue = {
            {LEAST, 2}, {-3, 2}, {0, 2}, {1, 2}, {2, 2}, {3, 3}, {7, 7}, {8, 8}, {9, 8}, {100, 8}, {GREATEST, 8},
        };
        for (int[] row : toldAndDue) {
            Ledger x = new Ledger(1, 2, row[0]);
            Scenes.seal(x, 0, 0, 50);
            CHECKS.same("ratio " + row[0] + ": chunks of a group", x.group(0, 0, 5), row[1]);
            CHECKS.same("ratio " + row[0] + ": groups", x.sizes(0, 2), (25 + row[1] - 1) / row[1]);
        }
    }

    private static void ratioBindsLooksToo() {
        CHECKS.promise(1, "RATIO: of another number the nearest of these, for LOOKS too");
        int[][] toldAndLooks = {{LEAST, 13}, {1, 13}, {2, 13}, {8, 4}, {9, 4}, {GREATEST, 4}};
        for (int[] row : toldAndLooks) {
            Ledger x = new Ledger(1, 2, row[0]);
            Scenes.seal(x, 0, 0, 50);
            x.aggCount(0, 0, 49);
            CHECKS.same("ratio " + row[0] + ": look(4)", x.look(4), row[1]);
        }
    }

    private static void allThreeAtOnce() {
        CHECKS.promise(1, "N, MOST, RATIO; of another number the nearest of these, all at once");
        Ledger x = new Ledger(LEAST, LEAST, LEAST);
        CHECKS.same("the least: append to 1", x.append(1, 0, 0), PointLedger.BAD_SERIES);
        Scenes.seal(x, 0, 0, 9);
        CHECKS.same("the least: chunks", x.sizes(0, 0), 5);
        CHECKS.same("the least: groups", x.sizes(0, 2), 3);
        Ledger y = new Ledger(GREATEST, GREATEST, GREATEST);
        CHECKS.same("the greatest: append to 8", y.append(8, 0, 0), PointLedger.BAD_SERIES);
        Scenes.seal(y, 7, 0, 65);
        CHECKS.same("the greatest: chunks", y.sizes(7, 0), 2);
        CHECKS.same("the greatest: groups", y.sizes(7, 2), 1);
    }

    private static void hasNoPoints() {
        CHECKS.promise(1, "No POINTS");
        Ledger x = new Ledger(3, 4, 2);
        for (int what : new int[] {0, 1, 2, 3, 4, 5, 6, 8}) {
            CHECKS.same("look(" + what + ")", x.look(what), 0);
        }
        for (int s = 0; s < 3; s++) {
            for (int what = 0; what < 3; what++) {
                CHECKS.same("sizes(" + s + ", " + what + ")", x.sizes(s, what), 0);
            }
            CHECKS.same("aggCount(" + s + ")", x.aggCount(s, LEAST, GREATEST), 0);
            CHECKS.same("aggMin(" + s + ")", x.aggMin(s, LEAST, GREATEST), 0);
            CHECKS.same("aggMax(" + s + ")", x.aggMax(s, LEAST, GREATEST), 0);
            CHECKS.same("aggSum(" + s + ")", x.aggSum(s, LEAST, GREATEST), 0);
            CHECKS.same("seek(" + s + ")", x.seek(s, LEAST, GREATEST), 0);
            CHECKS.no("next()", x.next());
            CHECKS.same("compact(" + s + ")", x.compact(s), 0);
        }
        CHECKS.same("flush()", x.flush(), 0);
        CHECKS.same("expire(MAX)", x.expire(GREATEST), 0);
        CHECKS.same("recover()", x.recover(), 0);
    }

    private static void powerDoesNotGo() {
        CHECKS.promise(1, "power does not go");
        Ledger x = new Ledger(1, 64, 2);
        CHECKS.same("look(6)", x.look(6), 0);
        CHECKS.same("look(7)", x.look(7), PointLedger.NONE);
        for (int t = 0; t < 300; t++) {
            CHECKS.same("append()", x.append(0, t, t), 0);
            if (t % 100 == 99) {
                CHECKS.same("flush()", x.flush(), 2);
            }
        }
        CHECKS.same("look(6) behind many writes", x.look(6), 0);
        CHECKS.same("look(7) behind many writes", x.look(7), PointLedger.NONE);
    }

    private static void isUsedFor512Calls() {
        CHECKS.promise(1, "An object is used for at most 512 calls");
        Ledger x = new Ledger(1, 2, 2);
        for (int call = 1; call < 512; call++) {
            CHECKS.same("call " + call, x.append(0, call, 0), call <= 128 ? 0 : PointLedger.NO_SPACE);
        }
        CHECKS.same("call 512", x.flush(), 64);
    }
}
