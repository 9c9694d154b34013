import java.util.NoSuchElementException;

/** Promise 17: sizes. */
public final class Promise17SizesTest {
    private static final int LEAST = Scenes.LEAST;
    private static final int GREATEST = Scenes.GREATEST;
    private static final int[] NO_WHAT = {-1, 3, 4, LEAST, GREATEST};
    private static final Checks CHECKS = new Checks();

    public static void main(String[] args) {
        howManyChunks();
        pointsInItsHead();
        howManyGroups();
        theStoreIsDown();
        thereIsNoSuchSeries();
        anotherWhat();
        changesNothing();
        CHECKS.done();
    }

    private static void howManyChunks() {
        CHECKS.promise(17, "what 0: how many CHUNKS");
        CHECKS.same("of a new one", new Ledger(1, 2, 2).sizes(0, 0), 0);
        Ledger x = Scenes.filled();
        CHECKS.same("of 0", x.sizes(0, 0), 1);
        CHECKS.same("of 1", x.sizes(1, 0), 5);
        x.flush();
        CHECKS.same("of 0 behind flush()", x.sizes(0, 0), 2);
        CHECKS.same("of 1 behind flush()", x.sizes(1, 0), 6);
        x.compact(0);
        CHECKS.same("of 0 behind compact()", x.sizes(0, 0), 1);
        x.expire(51);
        CHECKS.same("of 1 behind expire()", x.sizes(1, 0), 3);
        CHECKS.same("96", Scenes.chunks(96).sizes(0, 0), 96);
    }

    private static void pointsInItsHead() {
        CHECKS.promise(17, "what 1: POINTS in its HEAD");
        CHECKS.same("of a new one", new Ledger(1, 2, 2).sizes(0, 1), 0);
        Ledger x = Scenes.filled();
        CHECKS.same("of 0", x.sizes(0, 1), 1);
        CHECKS.same("of 1", x.sizes(1, 1), 2);
        x.flush();
        CHECKS.same("of 1 behind flush()", x.sizes(1, 1), 0);
        Ledger y = Scenes.fullLog();
        CHECKS.same("of 0, full", y.sizes(0, 1), 64);
        CHECKS.same("of 1, full", y.sizes(1, 1), 64);
        Ledger z = new Ledger(1, 2, 2);
        for (int t = 0; t < 128; t++) {
            z.append(0, t, 0);
        }
        CHECKS.same("of one alone, full", z.sizes(0, 1), 128);
    }

    private static void howManyGroups() {
        CHECKS.promise(17, "what 2: GROUPS");
        for (int ratio : new int[] {2, 3, 8}) {
            Ledger x = new Ledger(2, 2, ratio);
            CHECKS.same("of none by " + ratio, x.sizes(0, 2), 0);
            for (int chunks = 1; chunks <= 17; chunks++) {
                Scenes.seal(x, 0, chunks, 1);
                CHECKS.same("of " + chunks + " by " + ratio, x.sizes(0, 2), (chunks + ratio - 1) / ratio);
                CHECKS.same("of another series", x.sizes(1, 2), 0);
            }
            x.append(0, 100, 0);
            CHECKS.same("a head is in none", x.sizes(0, 2), (17 + ratio - 1) / ratio);
            x.expire(17);
            CHECKS.same("of one that is left", x.sizes(0, 2), 1);
            x.expire(18);
            CHECKS.same("of none again", x.sizes(0, 2), 0);
        }
    }

    private static void theStoreIsDown() {
        CHECKS.promise(17, "IllegalStateException: the store is DOWN");
        Ledger x = Scenes.down();
        for (int s : new int[] {0, 1, 2, -1, LEAST}) {
            for (int what : new int[] {0, 1, 2, 3, -1}) {
                CHECKS.throwing("sizes(" + s + ", " + what + ")", IllegalStateException.class, () -> x.sizes(s, what));
            }
        }
        x.recover();
        CHECKS.same("with power", x.sizes(1, 0), 5);
    }

    private static void thereIsNoSuchSeries() {
        CHECKS.promise(17, "IndexOutOfBoundsException: there is no such SERIES");
        Ledger x = Scenes.filled();
        for (int bad : Scenes.NO_SERIES_OF_TWO) {
            for (int what : new int[] {0, 1, 2, 3, -1}) {
                CHECKS.throwing("sizes(" + bad + ", " + what + ")", IndexOutOfBoundsException.class, () -> x.sizes(bad, what));
            }
        }
    }

    private static void anotherWhat() {
        CHECKS.promise(17, "NoSuchElementException: another what");
        Ledger x = Scenes.filled();
        for (int what : NO_WHAT) {
            CHECKS.throwing("sizes(0, " + what + ")", NoSuchElementException.class, () -> x.sizes(0, what));
            CHECKS.throwing("sizes(1, " + what + ")", NoSuchElementException.class, () -> x.sizes(1, what));
        }
    }

    private static void changesNothing() {
        CHECKS.promise(17, "A size is told, nothing changes");
        CHECKS.leaves("sizes()", () -> {
            Ledger x = Scenes.filled();
            x.seek(1, 5, 65);
            x.next();
            return x;
        }, x -> {
            x.sizes(1, 0);
            x.sizes(0, 1);
            x.sizes(0, 2);
            CHECKS.throwing("sizes(1, 3)", NoSuchElementException.class, () -> x.sizes(1, 3));
            CHECKS.throwing("sizes(2, 0)", IndexOutOfBoundsException.class, () -> x.sizes(2, 0));
        });
    }
}
