import java.util.NoSuchElementException;

/** Promise 19: group. */
public final class Promise19GroupTest {
    private static final int LEAST = Scenes.LEAST;
    private static final int GREATEST = Scenes.GREATEST;
    private static final Checks CHECKS = new Checks();

    public static void main(String[] args) {
        numbersOfAGroup();
        numbersOfAGreatGroup();
        theLastGroupMayHaveFewer();
        fromTheFirstChunkOn();
        ofTheSeriesThatIsTold();
        ofEdgesOfInts();
        theStoreIsDown();
        thereIsNoSuchSeries();
        anotherWhat();
        thereIsNoSuchGroup();
        changesNothing();
        CHECKS.done();
    }

    /** Series 2: chunks {1: 5, 2: 9, 4: 3} {8: 7, 16: 70, 32: 50} {64: -1}, head {65: -7, 66: 0}; 0 has one in its head. */
    private static Ledger filled() {
        Ledger x = new Ledger(3, 3, 2);
        int[] values = {5, 9, 3, 7, 70, 50, -1};
        for (int p = 0; p < values.length; p++) {
            x.append(2, 1 << p, values[p]);
        }
        x.flush();
        x.append(2, 65, -7);
        x.append(0, 3, 0);
        x.append(2, 66, 0);
        return x;
    }

    private static void is(Ledger x, int series, int g, int... due) {
        for (int what = 0; what < 6; what++) {
            CHECKS.same("group(" + series + ", " + g + ", " + what + ")", x.group(series, g, what), due[what]);
        }
    }

    private static void numbersOfAGroup() {
        CHECKS.promise(19, "what 0: first TIME, 1: last TIME, 2: how many POINTS, 3: least VALUE, 4: greatest VALUE, 5: how many CHUNKS");
        Ledger x = filled();
        is(x, 2, 0, 1, 32, 6, 3, 70, 2);
        is(x, 2, 1, 64, 64, 1, -1, -1, 1);
        x.flush();
        is(x, 2, 0, 1, 32, 6, 3, 70, 2);
        is(x, 2, 1, 64, 66, 3, -7, 0, 2);
        is(x, 0, 0, 3, 3, 1, 0, 0, 1);
    }

    private static void numbersOfAGreatGroup() {
        CHECKS.promise(19, "how many POINTS a GROUP of full CHUNKS has");
        Ledger x = new Ledger(1, 64, 8);
        for (int flushes = 1; flushes <= 3; flushes++) {
            Scenes.seal(x, 0, 128 * (flushes - 1), 128);
            is(x, 0, 0, 0, 128 * flushes - 1, 128 * flushes, 0, 10 * (128 * flushes - 1), 2 * flushes);
        }
        CHECKS.same("groups", x.sizes(0, 2), 1);
    }

    private static void theLastGroupMayHaveFewer() {
        CHECKS.term(1, 19, "RATIO CHUNKS one behind the other are a GROUP; the last GROUP of a SERIES may have fewer");
        for (int ratio : new int[] {2, 3, 8}) {
            for (int chunks : new int[] {1, ratio - 1, ratio, ratio + 1, 2 * ratio, 2 * ratio + 1}) {
                Ledger x = new Ledger(1, 2, ratio);
                for (int t = 0; t < 2 * chunks; t++) {
                    x.append(0, t, t);
                }
                x.flush();
                String what = " of " + chunks + " by " + ratio;
                int groups = (chunks + ratio - 1) / ratio;
                for (int g = 0; g < groups; g++) {
                    int due = g < groups - 1 ? ratio : chunks - g * ratio;
                    CHECKS.same("chunks of group " + g + what, x.group(0, g, 5), due);
                    CHECKS.same("points of group " + g + what, x.group(0, g, 2), 2 * due);
                    CHECKS.same("first time of group " + g + what, x.group(0, g, 0), 2 * g * ratio);
                    CHECKS.same("last time of group " + g + what, x.group(0, g, 1), 2 * g * ratio + 2 * due - 1);
                    CHECKS.same("least value of group " + g + what, x.group(0, g, 3), 2 * g * ratio);
                    CHECKS.same("greatest value of group " + g + what, x.group(0, g, 4), 2 * g * ratio + 2 * due - 1);
                }
                CHECKS.throwing("group " + groups + what, NoSuchElementException.class, () -> x.group(0, groups, 0));
            }
        }
    }

    private static void fromTheFirstChunkOn() {
        CHECKS.term(1, 19, "RATIO CHUNKS one behind the other, from the first one on");
        Ledger x = filled();
        x.flush();
        x.expire(5);
        is(x, 2, 0, 8, 64, 4, -1, 70, 2);
        is(x, 2, 1, 65, 66, 2, -7, 0, 1);
        CHECKS.same("compact(2)", x.compact(2), 1);
        is(x, 2, 0, 8, 66, 6, -7, 70, 2);
        CHECKS.throwing("group(2, 1, 0)", NoSuchElementException.class, () -> x.group(2, 1, 0));
    }

    private static void ofTheSeriesThatIsTold() {
        CHECKS.promise(19, "Of GROUP g of a SERIES, not of its neighbours");
        Ledger x = new Ledger(3, 2, 4);
        for (int t = 0; t < 6; t++) {
            for (int s = 0; s < 3; s++) {
                x.append(s, 10 * s + t, 100 * s + t);
            }
        }
        x.flush();
        for (int s = 0; s < 3; s++) {
            is(x, s, 0, 10 * s, 10 * s + 5, 6, 100 * s, 100 * s + 5, 3);
            int series = s;
            CHECKS.throwing("group(" + s + ", 1, 0)", NoSuchElementException.class, () -> x.group(series, 1, 0));
        }
    }

    private static void ofEdgesOfInts() {
        CHECKS.promise(19, "first TIME, last TIME, least VALUE, greatest VALUE, at the ends of ints");
        Ledger x = new Ledger(1, 2, 2);
        x.append(0, LEAST, 0);
        x.append(0, 0, GREATEST);
        x.append(0, GREATEST, LEAST);
        x.flush();
        is(x, 0, 0, LEAST, GREATEST, 3, LEAST, GREATEST, 2);
        Ledger y = new Ledger(1, 2, 2);
        for (int t = 0; t < 4; t++) {
            y.append(0, t, GREATEST);
        }
        y.flush();
        is(y, 0, 0, 0, 3, 4, GREATEST, GREATEST, 2);
    }

    private static void theStoreIsDown() {
        CHECKS.promise(19, "Exceptions as chunk(): IllegalStateException: the store is DOWN");
        Ledger x = Scenes.down();
        for (int s : new int[] {0, 1, 2, -1}) {
            for (int g : new int[] {0, 5, -1}) {
                for (int what : new int[] {0, 5, 6, -1}) {
                    String call = "group(" + s + ", " + g + ", " + what + ")";
                    CHECKS.throwing(call, IllegalStateException.class, () -> x.group(s, g, what));
                }
            }
        }
    }

    private static void thereIsNoSuchSeries() {
        CHECKS.promise(19, "Exceptions as chunk(): IndexOutOfBoundsException: there is no such SERIES");
        Ledger x = Scenes.filled();
        for (int bad : Scenes.NO_SERIES_OF_TWO) {
            CHECKS.throwing("group(" + bad + ", 0, 0)", IndexOutOfBoundsException.class, () -> x.group(bad, 0, 0));
            CHECKS.throwing("group(" + bad + ", 9, 0)", IndexOutOfBoundsException.class, () -> x.group(bad, 9, 0));
            CHECKS.throwing("group(" + bad + ", 0, 9)", IndexOutOfBoundsException.class, () -> x.group(bad, 0, 9));
        }
    }

    private static void anotherWhat() {
        CHECKS.promise(19, "Exceptions as chunk(): NoSuchElementException: another what");
        Ledger x = filled();
        for (int what : new int[] {-1, 6, 7, 8, LEAST, GREATEST}) {
            CHECKS.throwing("group(2, 0, " + what + ")", NoSuchElementException.class, () -> x.group(2, 0, what));
            CHECKS.throwing("group(2, 1, " + what + ")", NoSuchElementException.class, () -> x.group(2, 1, what));
        }
    }

    private static void thereIsNoSuchGroup() {
        CHECKS.promise(19, "Exceptions as chunk(): NoSuchElementException also if there is no such GROUP");
        Ledger x = filled();
        for (int g : new int[] {-1, 2, 3, 96, LEAST, GREATEST, 1 << 30, (1 << 30) + 1, -(1 << 30)}) {
            CHECKS.throwing("group(2, " + g + ", 0)", NoSuchElementException.class, () -> x.group(2, g, 0));
        }
        CHECKS.throwing("group(0, 0, 0) of a head", NoSuchElementException.class, () -> x.group(0, 0, 0));
        CHECKS.throwing("group(1, 0, 0) of nothing", NoSuchElementException.class, () -> x.group(1, 0, 0));
        x.flush();
        CHECKS.throwing("group(0, 1, 0) ahead of others", NoSuchElementException.class, () -> x.group(0, 1, 0));
        CHECKS.throwing("group(1, 0, 0) between others", NoSuchElementException.class, () -> x.group(1, 0, 0));
        Ledger y = Scenes.chunks(96);
        CHECKS.same("group(0, 47, 0)", y.group(0, 47, 0), 188);
        CHECKS.throwing("group(0, 48, 0)", NoSuchElementException.class, () -> y.group(0, 48, 0));
    }

    private static void changesNothing() {
        CHECKS.promise(19, "A number is told, nothing changes");
        CHECKS.leaves("group()", () -> {
            Ledger x = Scenes.filled();
            x.seek(1, 5, 65);
            x.next();
            return x;
        }, x -> {
            x.group(1, 0, 0);
            x.group(1, 2, 5);
            CHECKS.throwing("group(1, 3, 0)", NoSuchElementException.class, () -> x.group(1, 3, 0));
            CHECKS.throwing("group(2, 0, 0)", IndexOutOfBoundsException.class, () -> x.group(2, 0, 0));
        });
    }
}
