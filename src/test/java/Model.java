import java.util.ArrayList;
import java.util.List;
import java.util.NoSuchElementException;

/**
 * The document once more, written for plainness and apart from the class: POINTS are held as objects in memory, BITS as
 * text, and the DISK is only written, never read. What the class gets back from its DISK must be what is held here.
 */
final class Model {
    private static final class Point {
        final int time;
        final int value;

        Point(int time, int value) {
            this.time = time;
            this.value = value;
        }
    }

    private static final class Chunk {
        final List<Point> points = new ArrayList<>();
        int[] cells;
        int place;

        int first() {
            return points.get(0).time;
        }

        int last() {
            return points.get(points.size() - 1).time;
        }
    }

    private static final class PowerGone extends RuntimeException {
        private static final long serialVersionUID = 1L;
    }

    private final int n;
    private final int most;
    private final int ratio;
    private final int[] disk = new int[4096];
    private List<List<Chunk>> chunks = new ArrayList<>();
    private final List<List<Point>> heads = new ArrayList<>();
    private int logged = 0;
    private int epoch = 0;
    private int side = 0;
    private int writes = 0;
    private int left = -1;
    private boolean down = false;
    private List<Point> cursor = null;
    private int cursorAt = -1;
    private int looks = 0;
    private int unpacked = 0;
    private int recoveries = 0;

    Model(int series, int most, int ratio) {
        this.n = Math.min(8, Math.max(1, series));
        this.most = Math.min(64, Math.max(2, most));
        this.ratio = Math.min(8, Math.max(2, ratio));
        for (int s = 0; s < n; s++) {
            chunks.add(new ArrayList<>());
            heads.add(new ArrayList<>());
        }
    }

    private void write(int k, int value) {
        if (left == 0) {
            down = true;
            throw new PowerGone();
        }
        left = left > 0 ? left - 1 : left;
        disk[k] = value;
        writes++;
    }

    private boolean bad(int series) {
        return series < 0 || series >= n;
    }

    int append(int series, int time, int value) {
        cursor = null;
        if (down) {
            return -9;
        }
        if (bad(series)) {
            return -2;
        }
        List<Point> all = pointsOf(series);
        if (!all.isEmpty() && all.get(all.size() - 1).time >= time) {
            return -1;
        }
        if (logged == 128) {
            return -3;
        }
        try {
            int[] block = {series, time, value, epoch + 1};
            for (int k = 0; k < 4; k++) {
                write(1923 + 4 * logged + k, block[k]);
            }
        } catch (PowerGone e) {
            return -9;
        }
        heads.get(series).add(new Point(time, value));
        logged++;
        return 0;
    }

    int flush() {
        cursor = null;
        if (down) {
            return -9;
        }
        if (logged == 0) {
            return 0;
        }
        List<List<Chunk>> after = new ArrayList<>();
        int came = 0;
        for (int s = 0; s < n; s++) {
            List<Chunk> of = new ArrayList<>(chunks.get(s));
            Chunk chunk = null;
            for (Point p : heads.get(s)) {
                if (chunk == null || chunk.points.size() == most) {
                    chunk = new Chunk();
                    of.add(chunk);
                    came++;
                }
                chunk.points.add(p);
            }
            after.add(of);
        }
        int answer = turn(after, epoch + 1, came);
        if (answer == came) {
            logged = 0;
            for (List<Point> head : heads) {
                head.clear();
            }
        }
        return answer;
    }

    int compact(int series) {
        cursor = null;
        if (down) {
            return -9;
        }
        if (bad(series)) {
            return -2;
        }
        List<Chunk> old = chunks.get(series);
        List<Chunk> of = new ArrayList<>();
        int k = 0;
        while (k < old.size()) {
            int end = k + 1;
            int together = old.get(k).points.size();
            while (end < old.size() && together + old.get(end).points.size() <= most) {
                together += old.get(end).points.size();
                end++;
            }
            if (end == k + 1) {
                of.add(old.get(k));
            } else {
                Chunk joined = new Chunk();
                for (Chunk c : old.subList(k, end)) {
                    joined.points.addAll(c.points);
                }
                of.add(joined);
            }
            k = end;
        }
        int fewer = old.size() - of.size();
        if (fewer == 0) {
            return 0;
        }
        List<List<Chunk>> after = new ArrayList<>(chunks);
        after.set(series, of);
        return turn(after, epoch, fewer);
    }

    int expire(int before) {
        cursor = null;
        if (down) {
            return -9;
        }
        List<List<Chunk>> after = new ArrayList<>();
        int gone = 0;
        for (List<Chunk> old : chunks) {
            List<Chunk> of = new ArrayList<>();
            for (Chunk c : old) {
                if (c.last() < before) {
                    gone += c.points.size();
                } else {
                    of.add(c);
                }
            }
            after.add(of);
        }
        return gone == 0 ? 0 : turn(after, epoch, gone);
    }

    private int turn(List<List<Chunk>> after, int newEpoch, int answer) {
        List<Chunk> owners = new ArrayList<>();
        List<Chunk> fresh = new ArrayList<>();
        int count = 0;
        for (List<Chunk> of : chunks) {
            owners.addAll(of);
        }
        for (List<Chunk> of : after) {
            count += of.size();
        }
        if (count > 96) {
            return -3;
        }
        for (List<Chunk> of : after) {
            for (Chunk c : of) {
                if (!owners.contains(c)) {
                    c.cells = packed(c.points);
                    c.place = placeFor(c.cells.length, owners);
                    if (c.place < 0) {
                        return -3;
                    }
                    owners.add(c);
                    fresh.add(c);
                }
            }
        }
        try {
            for (Chunk c : fresh) {
                for (int k = 0; k < c.cells.length; k++) {
                    write(c.place + k, c.cells[k]);
                }
            }
            writeIndex(after, count, side == 0 ? 962 : 1);
            write(0, 2 * newEpoch + (1 - side));
        } catch (PowerGone e) {
            return -9;
        }
        side = 1 - side;
        epoch = newEpoch;
        chunks = after;
        return answer;
    }

    private void writeIndex(List<List<Chunk>> after, int count, int from) {
        int k = from;
        write(k++, count);
        for (int s = 0; s < n; s++) {
            for (Chunk c : after.get(s)) {
                long sum = sum(c.points);
                int[] entry = {
                    s, c.first(), c.last(), c.points.size(), least(c.points), greatest(c.points),
                    (int) (sum >>> 32), (int) (sum & 0xFFFFFFFFL), c.place, c.cells.length,
                };
                for (int number : entry) {
                    write(k++, number);
                }
            }
        }
    }

    private static int placeFor(int length, List<Chunk> owners) {
        boolean[] owned = new boolean[4096];
        for (Chunk c : owners) {
            for (int k = 0; k < c.cells.length; k++) {
                owned[c.place + k] = true;
            }
        }
        for (int place = 2435; place + length <= 4096; place++) {
            boolean free = true;
            for (int k = 0; k < length && free; k++) {
                free = !owned[place + k];
            }
            if (free) {
                return place;
            }
        }
        return -1;
    }

    private static int[] packed(List<Point> points) {
        StringBuilder bits = new StringBuilder();
        long riseAhead = 0;
        for (int p = 1; p < points.size(); p++) {
            long rise = (long) points.get(p).time - points.get(p - 1).time;
            bits.append(bitsOfChange(rise - riseAhead));
            riseAhead = rise;
            bits.append(bitsOfDifference(points.get(p).value - points.get(p - 1).value));
        }
        while (bits.length() % 32 != 0) {
            bits.append('0');
        }
        int[] cells = new int[2 + bits.length() / 32];
        cells[0] = points.get(0).time;
        cells[1] = points.get(0).value;
        for (int c = 2; c < cells.length; c++) {
            cells[c] = (int) Long.parseLong(bits.substring(32 * (c - 2), 32 * (c - 1)), 2);
        }
        return cells;
    }

    private static String bitsOfChange(long e) {
        if (e == 0) {
            return "0";
        }
        if (e + 64 >= 0 && e + 64 <= 127) {
            return "10" + inBits(e + 64, 7);
        }
        if (e + 256 >= 0 && e + 256 <= 511) {
            return "110" + inBits(e + 256, 9);
        }
        if (e + 2048 >= 0 && e + 2048 <= 4095) {
            return "1110" + inBits(e + 2048, 12);
        }
        return "1111" + inBits(e + 8_589_934_592L, 34);
    }

    private static String bitsOfDifference(int d) {
        long z = (d < 0 ? -2L * d - 1 : 2L * d) & 0xFFFFFFFFL;
        String bits = "";
        while (z != 0) {
            bits += "1" + inBits(z % 16, 4);
            z = z / 16;
        }
        return bits + "0";
    }

    private static String inBits(long number, int width) {
        String bits = Long.toBinaryString(number);
        return "0".repeat(width - bits.length()) + bits;
    }

    private List<Point> pointsOf(int series) {
        List<Point> all = new ArrayList<>();
        for (Chunk c : chunks.get(series)) {
            all.addAll(c.points);
        }
        all.addAll(heads.get(series));
        return all;
    }

    private List<Point> asked(int series, int from, int to) {
        looks = 0;
        unpacked = 0;
        for (List<Chunk> group : groupsOf(series)) {
            looks++;
            if (standing(group.get(0).first(), group.get(group.size() - 1).last(), from, to) == 'P') {
                for (Chunk c : group) {
                    looks++;
                    unpacked += standing(c.first(), c.last(), from, to) == 'P' ? 1 : 0;
                }
            }
        }
        List<Point> some = new ArrayList<>();
        for (Point p : pointsOf(series)) {
            if (from <= p.time && p.time <= to) {
                some.add(p);
            }
        }
        return some;
    }

    /** O for OUT, I for IN, P for a part. */
    private static char standing(int first, int last, int from, int to) {
        if (last < from || first > to) {
            return 'O';
        }
        return first >= from && last <= to ? 'I' : 'P';
    }

    private List<List<Chunk>> groupsOf(int series) {
        List<List<Chunk>> groups = new ArrayList<>();
        for (Chunk c : chunks.get(series)) {
            if (groups.isEmpty() || groups.get(groups.size() - 1).size() == ratio) {
                groups.add(new ArrayList<>());
            }
            groups.get(groups.size() - 1).add(c);
        }
        return groups;
    }

    private static int least(List<Point> points) {
        return points.stream().mapToInt(p -> p.value).min().orElse(0);
    }

    private static int greatest(List<Point> points) {
        return points.stream().mapToInt(p -> p.value).max().orElse(0);
    }

    private static long sum(List<Point> points) {
        return points.stream().mapToLong(p -> p.value).sum();
    }

    int seek(int series, int from, int to) {
        cursor = null;
        if (down || bad(series)) {
            return down ? -9 : -2;
        }
        cursor = asked(series, from, to);
        cursorAt = -1;
        return cursor.size();
    }

    boolean next() {
        if (cursor == null) {
            return false;
        }
        cursorAt = Math.min(cursorAt + 1, cursor.size());
        return cursorAt < cursor.size();
    }

    private boolean stands() {
        return cursor != null && cursorAt >= 0 && cursorAt < cursor.size();
    }

    int curTime() {
        return stands() ? cursor.get(cursorAt).time : 0;
    }

    int curVal() {
        return stands() ? cursor.get(cursorAt).value : 0;
    }

    int aggCount(int series, int from, int to) {
        return down ? -9 : bad(series) ? -2 : asked(series, from, to).size();
    }

    private void check(int series) {
        if (down) {
            throw new IllegalStateException();
        }
        if (bad(series)) {
            throw new IndexOutOfBoundsException();
        }
    }

    int aggMin(int series, int from, int to) {
        check(series);
        return least(asked(series, from, to));
    }

    int aggMax(int series, int from, int to) {
        check(series);
        return greatest(asked(series, from, to));
    }

    long aggSum(int series, int from, int to) {
        check(series);
        return sum(asked(series, from, to));
    }

    boolean crashAfter(int w) {
        if (down || w < 0 || w > 1_000_000) {
            return false;
        }
        left = w;
        return true;
    }

    int recover() {
        cursor = null;
        recoveries++;
        down = false;
        left = -1;
        int all = 0;
        for (int s = 0; s < n; s++) {
            all += pointsOf(s).size();
        }
        return all;
    }

    int cell(int k) {
        return k < 0 || k >= 4096 ? 0 : disk[k];
    }

    int sizes(int series, int what) {
        check(series);
        int[] numbers = {chunks.get(series).size(), heads.get(series).size(), groupsOf(series).size()};
        return pick(numbers, what);
    }

    int chunk(int series, int k, int what) {
        check(series);
        if (k < 0 || k >= chunks.get(series).size()) {
            throw new NoSuchElementException();
        }
        Chunk c = chunks.get(series).get(k);
        int[] numbers = {
            c.first(), c.last(), c.points.size(), least(c.points), greatest(c.points), c.place, c.cells.length,
        };
        return pick(numbers, what);
    }

    int group(int series, int g, int what) {
        check(series);
        List<List<Chunk>> groups = groupsOf(series);
        if (g < 0 || g >= groups.size()) {
            throw new NoSuchElementException();
        }
        List<Point> points = new ArrayList<>();
        for (Chunk c : groups.get(g)) {
            points.addAll(c.points);
        }
        int[] numbers = {
            points.get(0).time, points.get(points.size() - 1).time, points.size(), least(points), greatest(points),
            groups.get(g).size(),
        };
        return pick(numbers, what);
    }

    private static int pick(int[] numbers, int what) {
        if (what < 0 || what >= numbers.length) {
            throw new NoSuchElementException();
        }
        return numbers[what];
    }

    int look(int what) {
        int count = 0;
        int cells = 0;
        for (List<Chunk> of : chunks) {
            for (Chunk c : of) {
                count++;
                cells += c.cells.length;
            }
        }
        int[] numbers = {
            writes, logged, count, cells, looks, unpacked, down ? 1 : 0, down ? 0 : left, recoveries,
        };
        return what < 0 || what >= numbers.length ? -1 : numbers[what];
    }
}
