import java.util.Random;
import java.util.function.LongSupplier;

/**
 * All promises: runs of calls that a fixed seed makes, on the class and on the model side by side. Each call must give
 * the same answer or exception, and behind each one all that can be asked of the store must be the same. (The asking
 * goes beyond the 512 calls of the document; the run itself does not, and the class does not count its calls.)
 */
public final class ModelTest {
    private static final int RUNS = 160;
    private static final int CALLS = 512;
    private static final int FILLING_CALLS = 420;
    private static final Checks CHECKS = new Checks();

    private final Random random;
    private final boolean filling;
    private final int series;
    private final int timeStyle;
    private final int valueStyle;
    private final int appendShare;
    private final int crashShare;
    private final int[] nextTime = new int[8];
    private final PointLedger x;
    private final Model m;
    private final StringBuilder seen = new StringBuilder();

    public static void main(String[] args) {
        int[] answers = new int[4];
        for (int run = 0; run < RUNS && CHECKS.wrong() == 0; run++) {
            new ModelTest(run).run(answers);
        }
        // A run that never comes to an edge shows nothing of it.
        CHECKS.yes("some flush() lacked space", answers[0] > 0);
        CHECKS.yes("some compact() lacked space", answers[1] > 0);
        CHECKS.yes("some append() lacked space", answers[2] > 0);
        CHECKS.yes("power went in many calls", answers[3] > 100);
        CHECKS.done();
    }

    private ModelTest(int seed) {
        random = new Random(seed);
        // Only one series of wide points, flushed early, fills so much of the area that compact() lacks space.
        filling = seed % 16 == 15;
        series = filling || seed % 5 == 0 ? 1 : 1 + random.nextInt(8);
        int most = filling ? 64 : seed % 3 == 0 ? 2 + random.nextInt(4) : 2 + random.nextInt(63);
        int ratio = 2 + random.nextInt(7);
        timeStyle = filling ? 3 : seed % 4;
        valueStyle = filling ? 2 : seed / 4 % 4;
        appendShare = new int[] {40, 70, 85, 93}[random.nextInt(4)];
        crashShare = random.nextInt(3);
        for (int s = 0; s < 8; s++) {
            nextTime[s] = timeStyle == 3 ? Integer.MIN_VALUE : random.nextInt(2001) - 1000;
        }
        x = new PointLedger(series, most, ratio);
        m = new Model(series, most, ratio);
        seen.append("seed ").append(seed).append(": new PointLedger(").append(series).append(", ").append(most)
                .append(", ").append(ratio).append(")");
    }

    private void run(int[] answers) {
        int wrongBefore = CHECKS.wrong();
        for (int call = 0; call < CALLS && CHECKS.wrong() == wrongBefore; call++) {
            int before = m.look(6);
            if (filling && call < FILLING_CALLS) {
                fill(call, answers);
            } else {
                callOnce(answers);
            }
            answers[3] += before == 0 && m.look(6) == 1 ? 1 : 0;
            compareCells();
            if (m.look(6) != before || random.nextInt(8) == 0) {
                compareNumbers();
            }
        }
        if (CHECKS.wrong() != wrongBefore) {
            System.out.println(seen);
        }
    }

    private void fill(int call, int[] answers) {
        if (call % 25 == 24) {
            sameAnswer("flush()", m::flush, x::flush);
        } else {
            callAppend(0, answers);
        }
    }

    private void callOnce(int[] answers) {
        int s = random.nextInt(20) == 0 ? random.nextInt(12) - 2 : random.nextInt(series);
        if (random.nextInt(100) < appendShare && m.look(6) == 0) {
            callAppend(s, answers);
            return;
        }
        int from = someTime();
        int to = random.nextInt(8) == 0 ? someTime() : Math.max(from, someTime());
        int w = random.nextInt(4) == 0 ? random.nextInt(2000) : random.nextInt(60);
        switch (random.nextInt(m.look(6) == 1 ? 16 : 13 + crashShare)) {
            case 0, 1, 2 -> {
                answers[0] += sameAnswer("flush()", m::flush, x::flush) == -3 ? 1 : 0;
            }
            case 3, 4 -> {
                answers[1] += sameAnswer("compact(" + s + ")", () -> m.compact(s), () -> x.compact(s)) == -3 ? 1 : 0;
            }
            case 5 -> sameAnswer("expire(" + from + ")", () -> m.expire(from), () -> x.expire(from));
            case 6, 7 -> {
                String args = "(" + s + ", " + from + ", " + to + ")";
                sameAnswer("seek" + args, () -> m.seek(s, from, to), () -> x.seek(s, from, to));
                walk(random.nextInt(40));
            }
            case 8 -> walk(1);
            case 9, 10, 11 -> ask(s, from, to);
            case 12, 15 -> sameAnswer("recover()", m::recover, x::recover);
            default -> {
                int told = random.nextInt(20) == 0 ? new int[] {-1, 1_000_001, 1_000_000}[random.nextInt(3)] : w;
                sameAnswer("crashAfter(" + told + ")", () -> m.crashAfter(told) ? 1 : 0, () -> x.crashAfter(told) ? 1 : 0);
            }
        }
    }

    private void callAppend(int s, int[] answers) {
        int of = Math.floorMod(s, 8);
        int time = random.nextInt(25) == 0 ? someTime() : nextTime[of];
        int value = someValue();
        String call = "append(" + s + ", " + time + ", " + value + ")";
        long answer = sameAnswer(call, () -> m.append(s, time, value), () -> x.append(s, time, value));
        answers[2] += answer == -3 ? 1 : 0;
        if (answer == 0) {
            nextTime[of] = timeBehind(time);
        }
    }

    private int timeBehind(int time) {
        long step;
        switch (timeStyle) {
            case 0 -> step = 10;
            case 1 -> step = 1 + random.nextInt(random.nextBoolean() ? 70 : 600);
            case 2 -> step = 1 + random.nextInt(random.nextBoolean() ? 5000 : 1_000_000);
            default -> step = 1 + (long) random.nextInt(1 << 24) * (1 + random.nextInt(2));
        }
        return (int) Math.min(Integer.MAX_VALUE, time + step);
    }

    private int someValue() {
        return switch (valueStyle) {
            case 0 -> 7;
            case 1 -> random.nextInt(201) - 100;
            case 2 -> random.nextInt();
            default -> new int[] {Integer.MIN_VALUE, Integer.MAX_VALUE, 0, -1, random.nextInt()}[random.nextInt(5)];
        };
    }

    /** A TIME at, or next to, one of a POINT that there is, as it is there that answers change. */
    private int someTime() {
        int s = random.nextInt(series);
        int edge = random.nextInt(10);
        if (edge == 0) {
            return random.nextBoolean() ? Integer.MIN_VALUE : Integer.MAX_VALUE;
        }
        if (m.look(6) == 0 && m.sizes(s, 0) > 0 && edge < 7) {
            int back = (int) Math.sqrt(random.nextInt(m.sizes(s, 0) * m.sizes(s, 0)));
            int k = random.nextBoolean() ? random.nextInt(m.sizes(s, 0)) : m.sizes(s, 0) - 1 - back;
            return m.chunk(s, k, random.nextInt(2)) + random.nextInt(3) - 1;
        }
        return nextTime[s] - random.nextInt(500);
    }

    private void walk(int steps) {
        for (int k = 0; k < steps; k++) {
            sameAnswer("next()", () -> m.next() ? 1 : 0, () -> x.next() ? 1 : 0);
            sameAnswer("curTime()", m::curTime, x::curTime);
            sameAnswer("curVal()", m::curVal, x::curVal);
        }
    }

    private void ask(int s, int from, int to) {
        String args = "(" + s + ", " + from + ", " + to + ")";
        switch (random.nextInt(4)) {
            case 0 -> sameAnswer("aggCount" + args, () -> m.aggCount(s, from, to), () -> x.aggCount(s, from, to));
            case 1 -> sameAnswer("aggMin" + args, () -> m.aggMin(s, from, to), () -> x.aggMin(s, from, to));
            case 2 -> sameAnswer("aggMax" + args, () -> m.aggMax(s, from, to), () -> x.aggMax(s, from, to));
            default -> sameAnswer("aggSum" + args, () -> m.aggSum(s, from, to), () -> x.aggSum(s, from, to));
        }
    }

    private long sameAnswer(String call, LongSupplier model, LongSupplier real) {
        String due = answerOf(model);
        String got = answerOf(real);
        seen.append("\n  ").append(call).append(" answered ").append(got);
        CHECKS.yes(call + " answered " + got + ", due is " + due, got.equals(due));
        return due.startsWith("throws") ? Long.MIN_VALUE : Long.parseLong(due);
    }

    private static String answerOf(LongSupplier call) {
        try {
            return Long.toString(call.getAsLong());
        } catch (RuntimeException e) {
            return "throws." + e.getClass().getName();
        }
    }

    private void compareCells() {
        for (int k = -1; k <= 4096; k++) {
            if (x.cell(k) != m.cell(k)) {
                CHECKS.same("cell(" + k + ")", x.cell(k), m.cell(k));
            }
        }
    }

    private void compareNumbers() {
        for (int what = -1; what < 10; what++) {
            CHECKS.same("look(" + what + ")", x.look(what), m.look(what));
        }
        compareQuietly("curTime()", m::curTime, x::curTime);
        compareQuietly("curVal()", m::curVal, x::curVal);
        for (int s = -1; s <= series; s++) {
            compareSeries(s);
        }
    }

    private void compareSeries(int s) {
        for (int what = -1; what < 4; what++) {
            int w = what;
            compareQuietly("sizes(" + s + ", " + w + ")", () -> m.sizes(s, w), () -> x.sizes(s, w));
        }
        boolean asks = m.look(6) == 0 && s >= 0 && s < series;
        int chunks = asks ? m.sizes(s, 0) : 0;
        int groups = asks ? m.sizes(s, 2) : 0;
        int some = chunks == 0 ? -1 : random.nextInt(chunks);
        for (int k : new int[] {-1, 0, some, chunks - 1, chunks}) {
            for (int what = -1; what < 8; what++) {
                int w = what;
                compareQuietly("chunk(" + s + ", " + k + ", " + w + ")", () -> m.chunk(s, k, w), () -> x.chunk(s, k, w));
            }
        }
        for (int g : new int[] {-1, 0, groups - 1, groups}) {
            for (int what = -1; what < 7; what++) {
                int w = what;
                compareQuietly("group(" + s + ", " + g + ", " + w + ")", () -> m.group(s, g, w), () -> x.group(s, g, w));
            }
        }
    }

    private void compareQuietly(String call, LongSupplier model, LongSupplier real) {
        String due = answerOf(model);
        String got = answerOf(real);
        if (!got.equals(due)) {
            CHECKS.yes(call + " answered " + got + ", due is " + due, false);
        }
    }
}
