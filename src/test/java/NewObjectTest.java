/** Promise 1: a new object. */
public final class NewObjectTest {
    private static final Checks CHECKS = new Checks();

    public static void main(String[] args) {
        isEmptyAndHasPower();
        takesTheNearestNumberOfSeries();
        takesTheNearestMost();
        takesTheNearestRatio();
        CHECKS.done();
    }

    private static void isEmptyAndHasPower() {
        PointLedger x = new PointLedger(3, 4, 2);
        int[] due = {0, 0, 0, 0, 0, 0, 0, -1, 0};
        for (int what = 0; what < due.length; what++) {
            CHECKS.same("new: look(" + what + ")", x.look(what), due[what]);
        }
        for (int k = 0; k < 4096; k++) {
            CHECKS.same("new: cell(" + k + ")", new PointLedger(3, 4, 2).cell(k), 0);
        }
        for (int s = 0; s < 3; s++) {
            CHECKS.same("new: sizes(s, 0)", x.sizes(s, 0), 0);
            CHECKS.same("new: sizes(s, 1)", x.sizes(s, 1), 0);
            CHECKS.same("new: sizes(s, 2)", x.sizes(s, 2), 0);
        }
        CHECKS.same("new: aggCount", x.aggCount(0, Integer.MIN_VALUE, Integer.MAX_VALUE), 0);
        CHECKS.same("new: recover()", x.recover(), 0);
    }

    private static void takesTheNearestNumberOfSeries() {
        int[][] toldAndDue = {
            {Integer.MIN_VALUE, 1}, {-1, 1}, {0, 1}, {1, 1}, {2, 2}, {7, 7}, {8, 8}, {9, 8}, {Integer.MAX_VALUE, 8},
        };
        for (int[] row : toldAndDue) {
            PointLedger x = new PointLedger(row[0], 4, 2);
            CHECKS.same("series " + row[0] + ": append to the last one", x.append(row[1] - 1, 0, 0), 0);
            CHECKS.same("series " + row[0] + ": append behind it", x.append(row[1], 0, 0), PointLedger.BAD_SERIES);
        }
    }

    private static void takesTheNearestMost() {
        int[][] toldAndDue = {
            {Integer.MIN_VALUE, 2}, {0, 2}, {1, 2}, {2, 2}, {3, 3}, {63, 63}, {64, 64}, {65, 64}, {Integer.MAX_VALUE, 64},
        };
        for (int[] row : toldAndDue) {
            PointLedger x = new PointLedger(1, row[0], 2);
            for (int t = 0; t < 100; t++) {
                x.append(0, t, 0);
            }
            x.flush();
            CHECKS.same("most " + row[0] + ": points of a chunk", x.chunk(0, 0, 2), row[1]);
        }
    }

    private static void takesTheNearestRatio() {
        int[][] toldAndDue = {
            {Integer.MIN_VALUE, 2}, {0, 2}, {1, 2}, {2, 2}, {3, 3}, {7, 7}, {8, 8}, {9, 8}, {Integer.MAX_VALUE, 8},
        };
        for (int[] row : toldAndDue) {
            PointLedger x = new PointLedger(1, 2, row[0]);
            for (int t = 0; t < 100; t++) {
                x.append(0, t, 0);
            }
            x.flush();
            CHECKS.same("ratio " + row[0] + ": chunks of a group", x.group(0, 0, 5), row[1]);
        }
    }
}
