import java.util.ArrayList;
import java.util.Arrays;
import java.util.LinkedHashMap;
import java.util.List;
import java.util.Map;
import java.util.function.Supplier;
import java.util.function.ToLongFunction;

/** All that can be asked of an object, asked of as many objects of the same scene as 512 calls each make needful. */
final class State {
    private static final int MOST_SERIES = 8;

    private final Supplier<Ledger> scene;
    private final Map<String, String> answers = new LinkedHashMap<>();
    private Ledger asked;

    private State(Supplier<Ledger> scene) {
        this.scene = scene;
        this.asked = scene.get();
    }

    static State of(Supplier<Ledger> scene) {
        State state = new State(scene);
        state.askQuietly();
        // What comes now changes LOOKS and UNPACKED, so it is asked of other objects.
        state.asked = scene.get();
        state.askForPoints();
        return state;
    }

    static int[] cellsOf(Supplier<Ledger> scene) {
        int[] cells = new int[4096];
        Ledger x = scene.get();
        for (int k = 0; k < cells.length; k++) {
            x = x.callsLeft() > 0 ? x : scene.get();
            cells[k] = x.cell(k);
        }
        return cells;
    }

    List<String> differences(State other, String... but) {
        List<String> calls = new ArrayList<>();
        Map<String, String> all = new LinkedHashMap<>(answers);
        all.putAll(other.answers);
        all.keySet().removeAll(Arrays.asList(but));
        for (String call : all.keySet()) {
            String mine = answers.get(call);
            String its = other.answers.get(call);
            if (!String.valueOf(mine).equals(its)) {
                calls.add(call + " from " + mine + " to " + its);
            }
        }
        return calls;
    }

    private long ask(String name, ToLongFunction<Ledger> call) {
        if (asked.callsLeft() == 0) {
            asked = scene.get();
        }
        try {
            long answer = call.applyAsLong(asked);
            answers.put(name, Long.toString(answer));
            return answer;
        } catch (RuntimeException e) {
            answers.put(name, "throws." + e.getClass().getSimpleName());
            return 0;
        }
    }

    private void askQuietly() {
        ask("curTime()", Ledger::curTime);
        ask("curVal()", Ledger::curVal);
        for (int what = 0; what <= 8; what++) {
            int w = what;
            ask("look(" + w + ")", x -> x.look(w));
        }
        for (int k = 0; k < 4096; k++) {
            int c = k;
            ask("cell(" + c + ")", x -> x.cell(c));
        }
        for (int s = 0; s < MOST_SERIES; s++) {
            askOfSeries(s);
        }
    }

    private void askOfSeries(int s) {
        long chunks = ask("sizes(" + s + ", 0)", x -> x.sizes(s, 0));
        ask("sizes(" + s + ", 1)", x -> x.sizes(s, 1));
        long groups = ask("sizes(" + s + ", 2)", x -> x.sizes(s, 2));
        for (int k = 0; k <= chunks; k++) {
            for (int what = 0; what < 7; what++) {
                int c = k;
                int w = what;
                ask("chunk(" + s + ", " + c + ", " + w + ")", x -> x.chunk(s, c, w));
            }
        }
        for (int g = 0; g <= groups; g++) {
            for (int what = 0; what < 6; what++) {
                int c = g;
                int w = what;
                ask("group(" + s + ", " + c + ", " + w + ")", x -> x.group(s, c, w));
            }
        }
    }

    private void askForPoints() {
        int least = Integer.MIN_VALUE;
        int greatest = Integer.MAX_VALUE;
        for (int series = 0; series < MOST_SERIES; series++) {
            int s = series;
            ask("aggCount(" + s + ", MIN, MAX)", x -> x.aggCount(s, least, greatest));
            ask("aggMin(" + s + ", MIN, MAX)", x -> x.aggMin(s, least, greatest));
            ask("aggMax(" + s + ", MIN, MAX)", x -> x.aggMax(s, least, greatest));
            ask("aggSum(" + s + ", MIN, MAX)", x -> x.aggSum(s, least, greatest));
            ask("aggSum(" + s + ", 5, 65)", x -> x.aggSum(s, 5, 65));
        }
    }
}
