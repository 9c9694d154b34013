import java.util.NoSuchElementException;

/** Promise 18: chunk. */
public final class Promise18ChunkTest {
    private static final int LEAST = Scenes.LEAST;
    private static final int GREATEST = Scenes.GREATEST;
    private static final Checks CHECKS = new Checks();

    public static void main(String[] args) {
        numbersOfAChunk();
        ofTheSeriesThatIsTold();
        ofEdgesOfInts();
        theStoreIsDown();
        thereIsNoSuchSeries();
        anotherWhat();
        thereIsNoSuchChunk();
        changesNothing();
        CHECKS.done();
    }

    /** Series 2: chunks {1: -5, 2: 9, 4: 3} {8: 7, 16: 70, 32: -70} {64: 1}, head {65: 0, 66: 0}; 0 has one in its head. */
    private static Ledger filled() {
        Ledger x = new Ledger(3, 3, 2);
        int[] values = {-5, 9, 3, 7, 70, -70, 1};
        for (int p = 0; p < values.length; p++) {
            x.append(2, 1 << p, values[p]);
        }
        x.flush();
        x.append(2, 65, 0);
        x.append(0, 3, 0);
        x.append(2, 66, 0);
        return x;
    }

    private static void numbersOfAChunk() {
        CHECKS.promise(18, "what 0: first TIME, 1: last TIME, 2: how many POINTS, 3: least VALUE, 4: greatest VALUE, 5: PLACE, 6: LENGTH");
        Ledger x = filled();
        // Chunk 0 has E 1, 1 and D 14, -6: 36 bits. Chunk 1 has E 8, 8 and D 63, -140: 45 bits.
        int[][] due = {
            {1, 4, 3, -5, 9, 2435, 4},
            {8, 32, 3, -70, 70, 2439, 4},
            {64, 64, 1, 1, 1, 2443, 2},
        };
        for (int k = 0; k < 3; k++) {
            for (int what = 0; what < 7; what++) {
                CHECKS.same("chunk(2, " + k + ", " + what + ")", x.chunk(2, k, what), due[k][what]);
            }
        }
    }

    private static void ofTheSeriesThatIsTold() {
        CHECKS.promise(18, "Of CHUNK k of a SERIES");
        Ledger x = filled();
        x.flush();
        CHECKS.same("chunk 0 of series 0", x.chunk(0, 0, 0), 3);
        CHECKS.same("chunk 0 of series 2", x.chunk(2, 0, 0), 1);
        CHECKS.same("chunk 2 of series 2", x.chunk(2, 2, 0), 64);
        CHECKS.same("chunk 3 of series 2", x.chunk(2, 3, 0), 65);
        x.expire(5);
        CHECKS.same("chunk 0 when earlier ones have gone", x.chunk(2, 0, 0), 8);
        CHECKS.same("chunk 2 when earlier ones have gone", x.chunk(2, 2, 0), 65);
        Ledger y = Scenes.chunks(96);
        CHECKS.same("chunk 95", y.chunk(0, 95, 0), 190);
        CHECKS.same("chunk 95", y.chunk(0, 95, 4), 573);
    }

    private static void ofEdgesOfInts() {
        CHECKS.promise(18, "first TIME, last TIME, least VALUE, greatest VALUE, at the ends of ints");
        Ledger x = new Ledger(1, 4, 2);
        x.append(0, LEAST, 0);
        x.append(0, 0, GREATEST);
        x.append(0, GREATEST, LEAST);
        x.flush();
        // E 2,147,483,648 and D of eight times four bits take 79 bits; E -1 and D 1, as it wraps, take 15.
        int[] due = {LEAST, GREATEST, 3, LEAST, GREATEST, 2435, 5};
        for (int what = 0; what < 7; what++) {
            CHECKS.same("chunk(0, 0, " + what + ")", x.chunk(0, 0, what), due[what]);
        }
    }

    private static void theStoreIsDown() {
        CHECKS.promise(18, "Exceptions as sizes(): IllegalStateException: the store is DOWN");
        Ledger x = Scenes.down();
        for (int s : new int[] {0, 1, 2, -1}) {
            for (int k : new int[] {0, 5, -1}) {
                for (int what : new int[] {0, 6, 7, -1}) {
                    String call = "chunk(" + s + ", " + k + ", " + what + ")";
                    CHECKS.throwing(call, IllegalStateException.class, () -> x.chunk(s, k, what));
                }
            }
        }
    }

    private static void thereIsNoSuchSeries() {
        CHECKS.promise(18, "Exceptions as sizes(): IndexOutOfBoundsException: there is no such SERIES");
        Ledger x = Scenes.filled();
        for (int bad : Scenes.NO_SERIES_OF_TWO) {
            CHECKS.throwing("chunk(" + bad + ", 0, 0)", IndexOutOfBoundsException.class, () -> x.chunk(bad, 0, 0));
            CHECKS.throwing("chunk(" + bad + ", 9, 0)", IndexOutOfBoundsException.class, () -> x.chunk(bad, 9, 0));
            CHECKS.throwing("chunk(" + bad + ", 0, 9)", IndexOutOfBoundsException.class, () -> x.chunk(bad, 0, 9));
        }
    }

    private static void anotherWhat() {
        CHECKS.promise(18, "Exceptions as sizes(): NoSuchElementException: another what");
        Ledger x = filled();
        for (int what : new int[] {-1, 7, 8, 9, LEAST, GREATEST}) {
            CHECKS.throwing("chunk(2, 0, " + what + ")", NoSuchElementException.class, () -> x.chunk(2, 0, what));
            CHECKS.throwing("chunk(2, 2, " + what + ")", NoSuchElementException.class, () -> x.chunk(2, 2, what));
        }
    }

    private static void thereIsNoSuchChunk() {
        CHECKS.promise(18, "NoSuchElementException also if there is no such CHUNK");
        Ledger x = filled();
        for (int k : new int[] {-1, 3, 4, 95, 96, LEAST, GREATEST, 1 << 30, 429_496_730}) {
            CHECKS.throwing("chunk(2, " + k + ", 0)", NoSuchElementException.class, () -> x.chunk(2, k, 0));
        }
        CHECKS.throwing("chunk(0, 0, 0)", NoSuchElementException.class, () -> x.chunk(0, 0, 0));
        CHECKS.throwing("chunk(1, 0, 0)", NoSuchElementException.class, () -> x.chunk(1, 0, 0));
        x.flush();
        CHECKS.throwing("chunk(0, 1, 0)", NoSuchElementException.class, () -> x.chunk(0, 1, 0));
        CHECKS.throwing("chunk(1, 0, 0) between others", NoSuchElementException.class, () -> x.chunk(1, 0, 0));
        CHECKS.throwing("chunk(2, -1, 0) behind others", NoSuchElementException.class, () -> x.chunk(2, -1, 0));
        Ledger y = Scenes.chunks(96);
        CHECKS.throwing("chunk(0, 96, 0)", NoSuchElementException.class, () -> y.chunk(0, 96, 0));
    }

    private static void changesNothing() {
        CHECKS.promise(18, "A number is told, nothing changes");
        CHECKS.leaves("chunk()", () -> {
            Ledger x = Scenes.filled();
            x.seek(1, 5, 65);
            x.next();
            return x;
        }, x -> {
            x.chunk(1, 0, 0);
            x.chunk(1, 4, 6);
            CHECKS.throwing("chunk(1, 5, 0)", NoSuchElementException.class, () -> x.chunk(1, 5, 0));
            CHECKS.throwing("chunk(2, 0, 0)", IndexOutOfBoundsException.class, () -> x.chunk(2, 0, 0));
        });
    }
}
