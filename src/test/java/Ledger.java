/** A PointLedger that a test asks for 512 calls at most, as what later ones answer is free. */
final class Ledger {
    private static final int MOST_CALLS = 512;

    private final PointLedger object;
    private int callsLeft = MOST_CALLS;

    Ledger(int series, int most, int ratio) {
        object = new PointLedger(series, most, ratio);
    }

    int callsLeft() {
        return callsLeft;
    }

    private PointLedger asked() {
        if (callsLeft == 0) {
            throw new AssertionError("this test asks one object for more than 512 calls");
        }
        callsLeft--;
        return object;
    }

    int append(int series, int time, int value) {
        return asked().append(series, time, value);
    }

    int flush() {
        return asked().flush();
    }

    int compact(int series) {
        return asked().compact(series);
    }

    int expire(int before) {
        return asked().expire(before);
    }

    int seek(int series, int from, int to) {
        return asked().seek(series, from, to);
    }

    boolean next() {
        return asked().next();
    }

    int curTime() {
        return asked().curTime();
    }

    int curVal() {
        return asked().curVal();
    }

    int aggCount(int series, int from, int to) {
        return asked().aggCount(series, from, to);
    }

    int aggMin(int series, int from, int to) {
        return asked().aggMin(series, from, to);
    }

    int aggMax(int series, int from, int to) {
        return asked().aggMax(series, from, to);
    }

    long aggSum(int series, int from, int to) {
        return asked().aggSum(series, from, to);
    }

    boolean crashAfter(int writes) {
        return asked().crashAfter(writes);
    }

    int recover() {
        return asked().recover();
    }

    int cell(int k) {
        return asked().cell(k);
    }

    int sizes(int series, int what) {
        return asked().sizes(series, what);
    }

    int chunk(int series, int k, int what) {
        return asked().chunk(series, k, what);
    }

    int group(int series, int g, int what) {
        return asked().group(series, g, what);
    }

    int look(int what) {
        return asked().look(what);
    }
}
