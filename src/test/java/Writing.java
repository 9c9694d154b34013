import java.util.List;
import java.util.function.Supplier;
import java.util.function.ToIntFunction;
import java.util.stream.IntStream;
import java.util.stream.Stream;

/** A call that writes, in a scene of its own, with its answer and the cells that it writes in their order. */
final class Writing {
    final String name;
    final Supplier<Ledger> scene;
    final ToIntFunction<Ledger> call;
    final int answer;
    final int[] order;

    private Writing(String name, Supplier<Ledger> scene, ToIntFunction<Ledger> call, int answer, IntStream order) {
        this.name = name;
        this.scene = scene;
        this.call = call;
        this.answer = answer;
        this.order = order.toArray();
    }

    /** One of each call that writes. */
    static List<Writing> all() {
        return List.of(
                new Writing("append()", Writing::asked, x -> x.append(1, 900, 9), 0, cells(1935, 4)),
                new Writing("flush()", Writing::aHoleIsFree, Ledger::flush, 2,
                        order(cells(2442, 3), cells(2435, 2), cells(962, 41), cells(0, 1))),
                new Writing("compact()", Writing::sixSingles, x -> x.compact(1), 4,
                        order(cells(2449, 4), cells(2453, 3), cells(1, 31), cells(0, 1))),
                new Writing("expire()", Writing::asked, x -> x.expire(35), 4, order(cells(1, 41), cells(0, 1))));
    }

    /** The scene, in which power goes when so many writes are done. */
    Ledger cutAt(int writes) {
        Ledger x = scene.get();
        x.crashAfter(writes);
        return x;
    }

    /** The scene, with the call behind it, in which power goes when so many writes are done. */
    Ledger cutShort(int writes) {
        Ledger x = cutAt(writes);
        call.applyAsInt(x);
        return x;
    }

    Ledger done() {
        Ledger x = scene.get();
        call.applyAsInt(x);
        return x;
    }

    private static IntStream cells(int from, int count) {
        return IntStream.range(from, from + count);
    }

    private static IntStream order(IntStream... parts) {
        return Stream.of(parts).reduce(IntStream.empty(), IntStream::concat);
    }

    private static Ledger asked() {
        Ledger x = Scenes.filled();
        x.aggCount(1, 5, 65);
        return x;
    }

    /** The place of series 1's new chunk, two cells that are free, lies ahead of that of series 0's, which takes three. */
    private static Ledger aHoleIsFree() {
        Ledger x = new Ledger(2, 2, 2);
        x.append(0, 1, 11);
        x.append(1, 100, 12);
        x.append(1, 101, 13);
        x.append(1, 102, 14);
        x.flush();
        x.expire(50);
        x.append(1, 103, 15);
        x.append(0, 60, 16);
        x.append(0, 61, 17);
        x.aggCount(1, 101, 102);
        return x;
    }

    /** Series 1's become one of four points and one of two; series 0 has a chunk ahead of them, both have heads. */
    private static Ledger sixSingles() {
        Ledger x = new Ledger(2, 4, 2);
        x.append(0, 5, 55);
        x.flush();
        Scenes.sealEach(x, 1, 1, 1, 1, 1, 1, 1);
        x.append(1, 50, 500);
        x.append(0, 50, 501);
        x.aggCount(1, 1, 3);
        return x;
    }
}
