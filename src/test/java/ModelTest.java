import java.util.ArrayList;
import java.util.List;
import java.util.Random;
import java.util.function.ToLongFunction;

/**
 * All promises: runs of 512 calls that a fixed seed makes, on the class and on the model side by side. Each call must
 * give the same answer or exception; and at some places of each run all that can be asked must be the same, which is
 * asked of objects for which the run is made again up to there, so that none is asked for more than 512 calls.
 */
public final class ModelTest {
    private static final int RUNS = 192;
    private static final int CALLS = 512;
    private static final int FILLING_CALLS = 420;
    private static final int MOST_PLACES = 3;
    private static final int CALLS_LEFT_TO_ASK = 64;
    private static final Checks CHECKS = new Checks();

    /** A call, to be made on both sides. */
    private static final class Call {
        final String name;
        final ToLongFunction<Model> ofModel;
        final ToLongFunction<Ledger> ofLedger;

        Call(String name, ToLongFunction<Model> ofModel, ToLongFunction<Ledger> ofLedger) {
            this.name = name;
            this.ofModel = ofModel;
            this.ofLedger = ofLedger;
        }
    }

    private final Random random;
    private final boolean filling;
    private final int series;
    private final int most;
    private final int ratio;
    private final int timeStyle;
    private final int valueStyle;
    private final int appendShare;
    private final int crashShare;
    private final int[] nextTime = new int[8];
    private final Ledger x;
    private final Model m;
    private final List<Call> made = new ArrayList<>();
    private final StringBuilder seen = new StringBuilder();
    private int steps = 0;

    public static void main(String[] args) {
        int[] answers = new int[4];
        for (int run = 0; run < RUNS && CHECKS.wrong() == 0; run++) {
            new ModelTest(run).run(answers);
        }
        // A run that never comes to an edge shows nothing of it.
        CHECKS.yes("some flush() lacked space", answers[0] > 0);
        CHECKS.yes("some compact() lacked space", answers[1] > 0);
        CHECKS.yes("some append() lacked space", answers[2] > 0);
        CHECKS.yes("power went in many calls", answers[3] > 100);
        CHECKS.done();
    }

    private ModelTest(int seed) {
        random = new Random(seed);
        // Only one series of wide points, flushed early, fills so much of the area that compact() lacks space.
        filling = seed % 16 == 15;
        series = filling || seed % 5 == 0 ? 1 : 1 + random.nextInt(8);
        most = filling ? 64 : seed % 3 == 0 ? 2 + random.nextInt(4) : 2 + random.nextInt(63);
        ratio = 2 + random.nextInt(7);
        timeStyle = filling ? 3 : seed % 4;
        valueStyle = filling ? 2 : seed / 4 % 4;
        appendShare = new int[] {40, 70, 85, 93}[random.nextInt(4)];
        crashShare = random.nextInt(3);
        for (int s = 0; s < 8; s++) {
            nextTime[s] = timeStyle == 3 ? Integer.MIN_VALUE : random.nextInt(2001) - 1000;
        }
        x = new Ledger(series, most, ratio);
        m = new Model(series, most, ratio);
        seen.append("seed ").append(seed).append(": new PointLedger(").append(series).append(", ").append(most)
                .append(", ").append(ratio).append(")");
    }

    private void run(int[] answers) {
        int wrongBefore = CHECKS.wrong();
        int places = 0;
        while (made.size() < CALLS && CHECKS.wrong() == wrongBefore) {
            int downBefore = m.look(6);
            Call call = nextCall();
            long answer = sameAnswer(call);
            boolean lacksSpace = answer == PointLedger.NO_SPACE;
            answers[0] += lacksSpace && call.name.startsWith("flush") ? 1 : 0;
            answers[1] += lacksSpace && call.name.startsWith("compact") ? 1 : 0;
            answers[2] += lacksSpace && call.name.startsWith("append") ? 1 : 0;
            answers[3] += downBefore == 0 && m.look(6) == 1 ? 1 : 0;
            boolean isEdge = lacksSpace || m.look(6) != downBefore;
            if (places < MOST_PLACES && made.size() < CALLS - CALLS_LEFT_TO_ASK && random.nextInt(isEdge ? 8 : 160) == 0) {
                places++;
                compareAll();
            }
        }
        if (CHECKS.wrong() != wrongBefore) {
            System.out.println(seen);
        }
    }

    private Call nextCall() {
        if (filling && made.size() < FILLING_CALLS) {
            return made.size() % 25 == 24 ? new Call("flush()", Model::flush, Ledger::flush) : append(0);
        }
        if (filling && made.size() == FILLING_CALLS) {
            return new Call("compact(0)", y -> y.compact(0), y -> y.compact(0));
        }
        if (steps > 0) {
            steps--;
            return step(steps % 3);
        }
        int s = random.nextInt(20) == 0 ? random.nextInt(12) - 2 : random.nextInt(series);
        if (random.nextInt(100) < appendShare && m.look(6) == 0) {
            return append(s);
        }
        int from = someTime();
        int to = random.nextInt(8) == 0 ? someTime() : Math.max(from, someTime());
        return switch (random.nextInt(m.look(6) == 1 ? 18 : 15 + crashShare)) {
            case 0, 1, 2 -> new Call("flush()", Model::flush, Ledger::flush);
            case 3, 4 -> new Call("compact(" + s + ")", y -> y.compact(s), y -> y.compact(s));
            case 5 -> new Call("expire(" + from + ")", y -> y.expire(from), y -> y.expire(from));
            case 6, 7 -> {
                steps = 3 * random.nextInt(20);
                yield new Call("seek(" + s + ", " + from + ", " + to + ")", y -> y.seek(s, from, to), y -> y.seek(s, from, to));
            }
            case 8 -> step(random.nextInt(3));
            case 9, 10, 11 -> ask(s, from, to);
            case 12, 17 -> new Call("recover()", Model::recover, Ledger::recover);
            case 13, 14 -> tell();
            default -> crashAfter();
        };
    }

    private Call append(int s) {
        int of = Math.floorMod(s, 8);
        boolean isNext = random.nextInt(25) != 0;
        int time = isNext ? nextTime[of] : someTime();
        int value = someValue();
        nextTime[of] = isNext ? timeBehind(time) : nextTime[of];
        return new Call("append(" + s + ", " + time + ", " + value + ")",
                y -> y.append(s, time, value), y -> y.append(s, time, value));
    }

    private static Call step(int kind) {
        return switch (kind) {
            case 0 -> new Call("curVal()", Model::curVal, Ledger::curVal);
            case 1 -> new Call("curTime()", Model::curTime, Ledger::curTime);
            default -> new Call("next()", y -> y.next() ? 1 : 0, y -> y.next() ? 1 : 0);
        };
    }

    private Call ask(int s, int from, int to) {
        String args = "(" + s + ", " + from + ", " + to + ")";
        return switch (random.nextInt(4)) {
            case 0 -> new Call("aggCount" + args, y -> y.aggCount(s, from, to), y -> y.aggCount(s, from, to));
            case 1 -> new Call("aggMin" + args, y -> y.aggMin(s, from, to), y -> y.aggMin(s, from, to));
            case 2 -> new Call("aggMax" + args, y -> y.aggMax(s, from, to), y -> y.aggMax(s, from, to));
            default -> new Call("aggSum" + args, y -> y.aggSum(s, from, to), y -> y.aggSum(s, from, to));
        };
    }

    private Call crashAfter() {
        int writes = random.nextInt(4) == 0 ? random.nextInt(2000) : random.nextInt(60);
        int told = random.nextInt(20) == 0 ? new int[] {-1, 1_000_001, 1_000_000}[random.nextInt(3)] : writes;
        return new Call("crashAfter(" + told + ")", y -> y.crashAfter(told) ? 1 : 0, y -> y.crashAfter(told) ? 1 : 0);
    }

    private Call tell() {
        int s = random.nextInt(series + 1);
        int k = random.nextInt(random.nextBoolean() ? 4 : 40) - 1;
        int what = random.nextInt(10) - 1;
        return switch (random.nextInt(5)) {
            case 0 -> cell(random.nextInt(4098) - 1);
            case 1 -> look(what);
            case 2 -> sizes(s, what);
            case 3 -> chunk(s, k, what);
            default -> group(s, k, what);
        };
    }

    private static Call cell(int k) {
        return new Call("cell(" + k + ")", y -> y.cell(k), y -> y.cell(k));
    }

    private static Call look(int what) {
        return new Call("look(" + what + ")", y -> y.look(what), y -> y.look(what));
    }

    private static Call sizes(int s, int what) {
        return new Call("sizes(" + s + ", " + what + ")", y -> y.sizes(s, what), y -> y.sizes(s, what));
    }

    private static Call chunk(int s, int k, int what) {
        return new Call("chunk(" + s + ", " + k + ", " + what + ")", y -> y.chunk(s, k, what), y -> y.chunk(s, k, what));
    }

    private static Call group(int s, int g, int what) {
        return new Call("group(" + s + ", " + g + ", " + what + ")", y -> y.group(s, g, what), y -> y.group(s, g, what));
    }

    private int timeBehind(int time) {
        long step;
        switch (timeStyle) {
            case 0 -> step = 10;
            case 1 -> step = 1 + random.nextInt(random.nextBoolean() ? 70 : 600);
            case 2 -> step = 1 + random.nextInt(random.nextBoolean() ? 5000 : 1_000_000);
            default -> step = 1 + (long) random.nextInt(1 << 23) * (1 + random.nextInt(2));
        }
        return (int) Math.min(Integer.MAX_VALUE, time + step);
    }

    private int someValue() {
        return switch (valueStyle) {
            case 0 -> 7;
            case 1 -> random.nextInt(201) - 100;
            case 2 -> random.nextInt();
            default -> new int[] {Integer.MIN_VALUE, Integer.MAX_VALUE, 0, -1, random.nextInt()}[random.nextInt(5)];
        };
    }

    /** A TIME at, or next to, one of a POINT that there is, as it is there that answers change. */
    private int someTime() {
        int s = random.nextInt(series);
        int edge = random.nextInt(10);
        if (edge == 0) {
            return random.nextBoolean() ? Integer.MIN_VALUE : Integer.MAX_VALUE;
        }
        if (m.look(6) == 0 && m.sizes(s, 0) > 0 && edge < 7) {
            int back = (int) Math.sqrt(random.nextInt(m.sizes(s, 0) * m.sizes(s, 0)));
            int k = random.nextBoolean() ? random.nextInt(m.sizes(s, 0)) : m.sizes(s, 0) - 1 - back;
            return m.chunk(s, k, random.nextInt(2)) + random.nextInt(3) - 1;
        }
        return nextTime[s] - random.nextInt(500);
    }

    private long sameAnswer(Call call) {
        String due = answerOf(m, call.ofModel);
        String got = answerOf(x, call.ofLedger);
        made.add(call);
        seen.append("\n  ").append(call.name).append(" answered ").append(got);
        CHECKS.yes(call.name + " answered " + got + ", due is " + due, got.equals(due));
        return due.startsWith("throws") ? Long.MIN_VALUE : Long.parseLong(due);
    }

    private static <T> String answerOf(T side, ToLongFunction<T> call) {
        try {
            return Long.toString(call.applyAsLong(side));
        } catch (RuntimeException e) {
            return "throws." + e.getClass().getName();
        }
    }

    private Ledger madeAgain() {
        Ledger again = new Ledger(series, most, ratio);
        for (Call call : made) {
            answerOf(again, call.ofLedger);
        }
        return again;
    }

    private void compareAll() {
        Ledger again = madeAgain();
        for (Call question : questions()) {
            again = again.callsLeft() > 0 ? again : madeAgain();
            String due = answerOf(m, question.ofModel);
            String got = answerOf(again, question.ofLedger);
            CHECKS.yes(question.name + " answered " + got + ", due is " + due, got.equals(due));
        }
    }

    /** All calls that change nothing. */
    private List<Call> questions() {
        List<Call> all = new ArrayList<>(List.of(step(0), step(1)));
        for (int k = -1; k <= 4096; k++) {
            all.add(cell(k));
        }
        for (int what = -1; what <= 9; what++) {
            all.add(look(what));
        }
        for (int s = -1; s <= series; s++) {
            addQuestionsOf(s, all);
        }
        return all;
    }

    private void addQuestionsOf(int s, List<Call> all) {
        boolean isTold = m.look(6) == 0 && s >= 0 && s < series;
        int chunks = isTold ? m.sizes(s, 0) : 0;
        int groups = isTold ? m.sizes(s, 2) : 0;
        for (int what = -1; what <= 3; what++) {
            all.add(sizes(s, what));
        }
        for (int k = -1; k <= chunks; k++) {
            for (int what = -1; what <= 7; what++) {
                all.add(chunk(s, k, what));
            }
        }
        for (int g = -1; g <= groups; g++) {
            for (int what = -1; what <= 6; what++) {
                all.add(group(s, g, what));
            }
        }
    }
}
