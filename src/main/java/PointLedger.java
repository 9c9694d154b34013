import java.util.NoSuchElementException;

/**
 * A store of points in time on a disk of its own. Words in capitals are the document's terms.
 *
 * <p>The DISK is the only place where POINTS lie: a call reads what it needs from the CELLS, so that what recover()
 * finds and what was there ahead of it can't differ.
 */
public final class PointLedger {
    public static final int NONE = -1;
    public static final int NOT_RISING = -1;
    public static final int BAD_SERIES = -2;
    public static final int NO_SPACE = -3;
    public static final int DOWN = -9;

    private static final int LEAST_SERIES = 1;
    private static final int GREATEST_SERIES = 8;
    private static final int LEAST_MOST = 2;
    private static final int GREATEST_MOST = 64;
    private static final int LEAST_RATIO = 2;
    private static final int GREATEST_RATIO = 8;
    private static final int GREATEST_WRITES_TOLD = 1_000_000;

    private static final int CELLS = 4096;
    private static final int ROOT = 0;
    private static final int INDEX_OF_SIDE_0 = 1;
    private static final int INDEX_OF_SIDE_1 = 962;
    private static final int MOST_CHUNKS = 96;
    private static final int ENTRY_CELLS = 10;
    private static final int LOG = 1923;
    private static final int BLOCKS = 128;
    private static final int BLOCK_CELLS = 4;
    private static final int AREA = 2435;
    private static final int AREA_CELLS = CELLS - AREA;

    // The CELLS of an ENTRY.
    private static final int ENTRY_SERIES = 0;
    private static final int ENTRY_FIRST = 1;
    private static final int ENTRY_LAST = 2;
    private static final int ENTRY_POINTS = 3;
    private static final int ENTRY_LEAST = 4;
    private static final int ENTRY_GREATEST = 5;
    private static final int ENTRY_SUM_HIGH = 6;
    private static final int ENTRY_SUM_LOW = 7;
    private static final int ENTRY_PLACE = 8;
    private static final int ENTRY_LENGTH = 9;

    // The CELLS of a BLOCK.
    private static final int BLOCK_SERIES = 0;
    private static final int BLOCK_TIME = 1;
    private static final int BLOCK_VALUE = 2;
    private static final int BLOCK_STAMP = 3;

    private static final int CELL_BITS = 32;
    private static final long LOW_BITS = 0xFFFFFFFFL;

    // How a CHUNK's BITS tell E: in so many bits, with so much added.
    private static final int SMALL_BITS = 7;
    private static final long SMALL_ADDED = 64;
    private static final int MIDDLE_BITS = 9;
    private static final long MIDDLE_ADDED = 256;
    private static final int LARGE_BITS = 12;
    private static final long LARGE_ADDED = 2_048;
    private static final int WIDE_BITS = 34;
    private static final long WIDE_ADDED = 8_589_934_592L;

    // So many bits of Z at once.
    private static final int VALUE_BITS = 4;

    private final int seriesCount;
    private final int most;
    private final int ratio;
    private final Disk disk;
    private final Index index;
    private final Log log;
    private final Unpacker unpacker;
    private final Turn turn;
    private final Asking asking;
    private final Cursor cursor;
    private int recoveries = 0;

    public PointLedger(int series, int most, int ratio) {
        this.seriesCount = nearest(series, LEAST_SERIES, GREATEST_SERIES);
        this.most = nearest(most, LEAST_MOST, GREATEST_MOST);
        this.ratio = nearest(ratio, LEAST_RATIO, GREATEST_RATIO);
        this.disk = new Disk();
        this.index = new Index(disk);
        this.log = new Log(disk);
        this.unpacker = new Unpacker(disk);
        this.turn = new Turn(disk, index);
        this.asking = new Asking(index, log, unpacker, this.ratio);
        this.cursor = new Cursor(disk, index, log);
    }

    public int append(int series, int time, int value) {
        cursor.close();
        if (disk.isDown()) {
            return DOWN;
        }
        if (!isSeries(series)) {
            return BAD_SERIES;
        }
        if (!isRising(series, time)) {
            return NOT_RISING;
        }
        if (log.isFull()) {
            return NO_SPACE;
        }
        return log.add(series, time, value) ? 0 : DOWN;
    }

    public int flush() {
        cursor.close();
        if (disk.isDown()) {
            return DOWN;
        }
        if (log.logged() == 0) {
            return 0;
        }
        turn.begin();
        for (int s = 0; s < seriesCount; s++) {
            keepEntries(index.firstOf(s), index.endOf(s));
            sealHead(s);
        }
        int answer = turnDisk(disk.epoch() + 1, turn.chunksMade());
        log.readAgain();
        return answer;
    }

    public int compact(int series) {
        cursor.close();
        if (disk.isDown()) {
            return DOWN;
        }
        if (!isSeries(series)) {
            return BAD_SERIES;
        }
        int first = index.firstOf(series);
        int end = index.endOf(series);
        turn.begin();
        keepEntries(0, first);
        joinEntries(series, first, end);
        keepEntries(end, index.chunks());
        if (turn.chunksMade() == 0) {
            return 0;
        }
        return turnDisk(disk.epoch(), index.chunks() - turn.chunks());
    }

    public int expire(int before) {
        cursor.close();
        if (disk.isDown()) {
            return DOWN;
        }
        int gone = 0;
        turn.begin();
        for (int e = 0; e < index.chunks(); e++) {
            if (index.at(e, ENTRY_LAST) < before) {
                gone += index.at(e, ENTRY_POINTS);
            } else {
                turn.keep(e);
            }
        }
        if (gone == 0) {
            return 0;
        }
        return turnDisk(disk.epoch(), gone);
    }

    public int seek(int series, int from, int to) {
        cursor.close();
        if (disk.isDown()) {
            return DOWN;
        }
        if (!isSeries(series)) {
            return BAD_SERIES;
        }
        cursor.open(series, from, to);
        return asking.ask(series, from, to).points;
    }

    public boolean next() {
        return cursor.advance();
    }

    public int curTime() {
        return cursor.time;
    }

    public int curVal() {
        return cursor.value;
    }

    public int aggCount(int series, int from, int to) {
        if (disk.isDown()) {
            return DOWN;
        }
        if (!isSeries(series)) {
            return BAD_SERIES;
        }
        return asking.ask(series, from, to).points;
    }

    public int aggMin(int series, int from, int to) throws IllegalStateException, IndexOutOfBoundsException {
        throwUnlessUp();
        throwUnlessSeries(series);
        return asking.ask(series, from, to).least;
    }

    public int aggMax(int series, int from, int to) throws IllegalStateException, IndexOutOfBoundsException {
        throwUnlessUp();
        throwUnlessSeries(series);
        return asking.ask(series, from, to).greatest;
    }

    public long aggSum(int series, int from, int to) throws IllegalStateException, IndexOutOfBoundsException {
        throwUnlessUp();
        throwUnlessSeries(series);
        return asking.ask(series, from, to).sum;
    }

    public boolean crashAfter(int writes) {
        if (disk.isDown() || writes < 0 || writes > GREATEST_WRITES_TOLD) {
            return false;
        }
        disk.limitWrites(writes);
        return true;
    }

    public int recover() {
        cursor.close();
        recoveries++;
        disk.powerOn();
        log.readAgain();
        return index.points() + log.logged();
    }

    public int cell(int k) {
        return disk.read(k);
    }

    public int sizes(int series, int what)
            throws IllegalStateException, IndexOutOfBoundsException, NoSuchElementException {
        throwUnlessUp();
        throwUnlessSeries(series);
        switch (what) {
            case 0:
                return chunksOf(series);
            case 1:
                return log.pointsOf(series);
            case 2:
                return groupsOf(series);
            default:
                throw new NoSuchElementException("no such size");
        }
    }

    public int chunk(int series, int k, int what)
            throws IllegalStateException, IndexOutOfBoundsException, NoSuchElementException {
        throwUnlessUp();
        throwUnlessSeries(series);
        if (k < 0 || k >= chunksOf(series)) {
            throw new NoSuchElementException("no such chunk");
        }
        int entry = index.firstOf(series) + k;
        switch (what) {
            case 0:
                return index.at(entry, ENTRY_FIRST);
            case 1:
                return index.at(entry, ENTRY_LAST);
            case 2:
                return index.at(entry, ENTRY_POINTS);
            case 3:
                return index.at(entry, ENTRY_LEAST);
            case 4:
                return index.at(entry, ENTRY_GREATEST);
            case 5:
                return index.at(entry, ENTRY_PLACE);
            case 6:
                return index.at(entry, ENTRY_LENGTH);
            default:
                throw new NoSuchElementException("a chunk has no such number");
        }
    }

    public int group(int series, int g, int what)
            throws IllegalStateException, IndexOutOfBoundsException, NoSuchElementException {
        throwUnlessUp();
        throwUnlessSeries(series);
        if (g < 0 || g >= groupsOf(series)) {
            throw new NoSuchElementException("no such group");
        }
        int first = index.firstOf(series) + g * ratio;
        int end = Math.min(first + ratio, index.endOf(series));
        Summary summary = asking.summaryOf(first, end);
        switch (what) {
            case 0:
                return summary.first;
            case 1:
                return summary.last;
            case 2:
                return summary.points;
            case 3:
                return summary.least;
            case 4:
                return summary.greatest;
            case 5:
                return end - first;
            default:
                throw new NoSuchElementException("a group has no such number");
        }
    }

    public int look(int what) {
        switch (what) {
            case 0:
                return disk.writesDone();
            case 1:
                return log.logged();
            case 2:
                return index.chunks();
            case 3:
                return index.cellsOfChunks();
            case 4:
                return asking.looks();
            case 5:
                return asking.unpacked();
            case 6:
                return disk.isDown() ? 1 : 0;
            case 7:
                return disk.writesLeft();
            case 8:
                return recoveries;
            default:
                return NONE;
        }
    }

    private static int nearest(int number, int least, int greatest) {
        return Math.max(least, Math.min(number, greatest));
    }

    private static int indexOfSide(int side) {
        return side == 0 ? INDEX_OF_SIDE_0 : INDEX_OF_SIDE_1;
    }

    private boolean isSeries(int series) {
        return series >= 0 && series < seriesCount;
    }

    private void throwUnlessUp() {
        if (disk.isDown()) {
            throw new IllegalStateException("power has gone");
        }
    }

    private void throwUnlessSeries(int series) {
        if (!isSeries(series)) {
            throw new IndexOutOfBoundsException("no such series");
        }
    }

    private int chunksOf(int series) {
        return index.endOf(series) - index.firstOf(series);
    }

    private int groupsOf(int series) {
        return ratio < LEAST_RATIO ? 0 : (chunksOf(series) + ratio - 1) / ratio;
    }

    private boolean isRising(int series, int time) {
        int block = log.lastOf(series);
        if (block != NONE) {
            return time > log.at(block, BLOCK_TIME);
        }
        int end = index.endOf(series);
        return index.firstOf(series) == end || time > index.at(end - 1, ENTRY_LAST);
    }

    private void keepEntries(int first, int end) {
        for (int e = first; e < end; e++) {
            turn.keep(e);
        }
    }

    private void sealHead(int series) {
        for (int b = 0; b < log.logged(); b++) {
            if (log.at(b, BLOCK_SERIES) == series) {
                if (turn.pointsOpen() == most) {
                    turn.seal(series);
                }
                turn.pack(log.at(b, BLOCK_TIME), log.at(b, BLOCK_VALUE));
            }
        }
        turn.seal(series);
    }

    private void joinEntries(int series, int first, int end) {
        int start = first;
        int together = 0;
        for (int e = first; e < end; e++) {
            int points = index.at(e, ENTRY_POINTS);
            if (together + points > most) {
                makeOneOf(series, start, e);
                start = e;
                together = 0;
            }
            together += points;
        }
        makeOneOf(series, start, end);
    }

    private void makeOneOf(int series, int first, int end) {
        if (end - first <= 1) {
            keepEntries(first, end);
            return;
        }
        for (int e = first; e < end; e++) {
            int points = index.at(e, ENTRY_POINTS);
            unpacker.open(index.at(e, ENTRY_PLACE));
            for (int p = 0; p < points; p++) {
                unpacker.step();
                turn.pack(unpacker.time, unpacker.value);
            }
        }
        turn.seal(series);
    }

    private int turnDisk(int epoch, int answer) {
        if (turn.lacksSpace()) {
            return NO_SPACE;
        }
        return turn.writeOut(epoch) ? answer : DOWN;
    }

    /** The CELLS, and the power that a WRITE needs. */
    private static final class Disk {
        private final int[] cells = new int[CELLS];
        private int writesDone = 0;
        private int writesLeft = NONE;
        private boolean down = false;

        int read(int k) {
            return k >= 0 && k < CELLS ? cells[k] : 0;
        }

        /** Answers false if power goes in place of the WRITE. */
        boolean write(int k, int value) {
            if (writesLeft == 0) {
                down = true;
                return false;
            }
            if (writesLeft > 0) {
                writesLeft--;
            }
            if (k >= 0 && k < CELLS) {
                cells[k] = value;
            }
            writesDone++;
            return true;
        }

        int epoch() {
            return cells[ROOT] >> 1;
        }

        int side() {
            return cells[ROOT] & 1;
        }

        void limitWrites(int writes) {
            writesLeft = writes;
        }

        void powerOn() {
            writesLeft = NONE;
            down = false;
        }

        boolean isDown() {
            return down;
        }

        int writesDone() {
            return writesDone;
        }

        int writesLeft() {
            return writesLeft;
        }
    }

    /** The ENTRIES that the ROOT tells of. */
    private static final class Index {
        private final Disk disk;

        Index(Disk disk) {
            this.disk = disk;
        }

        int chunks() {
            return disk.read(indexOfSide(disk.side()));
        }

        int at(int entry, int field) {
            return disk.read(indexOfSide(disk.side()) + 1 + entry * ENTRY_CELLS + field);
        }

        int firstOf(int series) {
            int all = chunks();
            for (int e = 0; e < all; e++) {
                if (at(e, ENTRY_SERIES) >= series) {
                    return e;
                }
            }
            return all;
        }

        int endOf(int series) {
            return firstOf(series + 1);
        }

        int points() {
            return total(ENTRY_POINTS);
        }

        int cellsOfChunks() {
            return total(ENTRY_LENGTH);
        }

        private int total(int field) {
            int all = chunks();
            int total = 0;
            for (int e = 0; e < all; e++) {
                total += at(e, field);
            }
            return total;
        }
    }

    /** The BLOCKS; those that are LOGGED are the HEADS. */
    private static final class Log {
        private final Disk disk;
        private int logged = 0;

        Log(Disk disk) {
            this.disk = disk;
        }

        int logged() {
            return logged;
        }

        boolean isFull() {
            return logged >= BLOCKS;
        }

        int at(int block, int field) {
            return disk.read(LOG + block * BLOCK_CELLS + field);
        }

        void readAgain() {
            int stamp = disk.epoch() + 1;
            logged = 0;
            while (logged < BLOCKS && at(logged, BLOCK_STAMP) == stamp) {
                logged++;
            }
        }

        boolean add(int series, int time, int value) {
            int block = LOG + logged * BLOCK_CELLS;
            // The STAMP comes last: a BLOCK that power cut short stays out of the LOG.
            boolean written = disk.write(block + BLOCK_SERIES, series)
                    && disk.write(block + BLOCK_TIME, time)
                    && disk.write(block + BLOCK_VALUE, value)
                    && disk.write(block + BLOCK_STAMP, disk.epoch() + 1);
            if (written) {
                logged++;
            }
            return written;
        }

        int pointsOf(int series) {
            int points = 0;
            for (int b = 0; b < logged; b++) {
                if (at(b, BLOCK_SERIES) == series) {
                    points++;
                }
            }
            return points;
        }

        int lastOf(int series) {
            for (int b = logged - 1; b >= 0; b--) {
                if (at(b, BLOCK_SERIES) == series) {
                    return b;
                }
            }
            return NONE;
        }
    }

    /** What is known of some POINTS without them; they are added by rising TIME. All is 0 without any. */
    private static final class Summary {
        private int first = 0;
        private int last = 0;
        private int points = 0;
        private int least = 0;
        private int greatest = 0;
        private long sum = 0;

        void clear() {
            first = 0;
            last = 0;
            points = 0;
            least = 0;
            greatest = 0;
            sum = 0;
        }

        void addPoint(int time, int value) {
            add(time, time, 1, value, value, value);
        }

        void addEntry(Index index, int entry) {
            long sumHigh = (long) index.at(entry, ENTRY_SUM_HIGH) << CELL_BITS;
            long sumLow = index.at(entry, ENTRY_SUM_LOW) & LOW_BITS;
            add(index.at(entry, ENTRY_FIRST), index.at(entry, ENTRY_LAST), index.at(entry, ENTRY_POINTS),
                    index.at(entry, ENTRY_LEAST), index.at(entry, ENTRY_GREATEST), sumHigh | sumLow);
        }

        void addSummary(Summary other) {
            add(other.first, other.last, other.points, other.least, other.greatest, other.sum);
        }

        boolean isOut(int from, int to) {
            return last < from || first > to;
        }

        boolean isIn(int from, int to) {
            return first >= from && last <= to;
        }

        private void add(int from, int to, int count, int low, int high, long total) {
            boolean isFirst = points == 0;
            first = isFirst ? from : first;
            last = to;
            points += count;
            least = isFirst ? low : Math.min(least, low);
            greatest = isFirst ? high : Math.max(greatest, high);
            sum += total;
        }
    }

    /** Turns POINTS into the CELLS of CHUNKS, one CHUNK behind the other. */
    private static final class Packer {
        // More CELLS than the AREA has could get no PLACE, so no more need be held.
        private final int[] cells = new int[AREA_CELLS];
        private int used = 0;
        private int bitsFree = 0;
        private boolean full = false;
        private int time = 0;
        private int value = 0;
        private long rise = 0;

        void clear() {
            used = 0;
            bitsFree = 0;
            full = false;
        }

        int used() {
            return used;
        }

        boolean isFull() {
            return full;
        }

        int at(int k) {
            return k >= 0 && k < used ? cells[k] : 0;
        }

        void packFirst(int firstTime, int firstValue) {
            addCell(firstTime);
            addCell(firstValue);
            bitsFree = 0;
            time = firstTime;
            value = firstValue;
            rise = 0;
        }

        void packFurther(int nextTime, int nextValue) {
            long nextRise = (long) nextTime - time;
            packChange(nextRise - rise);
            packDifference(nextValue - value);
            time = nextTime;
            value = nextValue;
            rise = nextRise;
        }

        private void packChange(long change) {
            if (change == 0) {
                addBits(0b0, 1);
            } else if (change >= -SMALL_ADDED && change < SMALL_ADDED) {
                addBits(0b10, 2);
                addBits(change + SMALL_ADDED, SMALL_BITS);
            } else if (change >= -MIDDLE_ADDED && change < MIDDLE_ADDED) {
                addBits(0b110, 3);
                addBits(change + MIDDLE_ADDED, MIDDLE_BITS);
            } else if (change >= -LARGE_ADDED && change < LARGE_ADDED) {
                addBits(0b1110, 4);
                addBits(change + LARGE_ADDED, LARGE_BITS);
            } else {
                addBits(0b1111, 4);
                addBits(change + WIDE_ADDED, WIDE_BITS);
            }
        }

        private void packDifference(int difference) {
            int z = difference < 0 ? -2 * difference - 1 : 2 * difference;
            for (int shift = 0; shift < CELL_BITS && z >>> shift != 0; shift += VALUE_BITS) {
                addBits(0b1, 1);
                addBits(z >>> shift, VALUE_BITS);
            }
            addBits(0b0, 1);
        }

        private void addBits(long bits, int count) {
            for (int b = count - 1; b >= 0; b--) {
                if (bitsFree == 0) {
                    addCell(0);
                    bitsFree = CELL_BITS;
                }
                bitsFree--;
                if (used > 0) {
                    cells[used - 1] |= (int) (bits >>> b & 1) << bitsFree;
                }
            }
        }

        private void addCell(int content) {
            if (used >= AREA_CELLS) {
                full = true;
                return;
            }
            cells[used] = content;
            used++;
        }
    }

    /** Reads the POINTS of a CHUNK from the DISK, one by one. */
    private static final class Unpacker {
        private final Disk disk;
        private int place = 0;
        private int bitsRead = 0;
        private boolean started = false;
        private int time = 0;
        private int value = 0;
        private long rise = 0;

        Unpacker(Disk disk) {
            this.disk = disk;
        }

        void open(int chunkPlace) {
            place = chunkPlace;
            bitsRead = 0;
            started = false;
        }

        void step() {
            if (!started) {
                started = true;
                time = disk.read(place);
                value = disk.read(place + 1);
                rise = 0;
                return;
            }
            rise += readChange();
            time = (int) (time + rise);
            value += readDifference();
        }

        private long readChange() {
            int ones = 0;
            while (ones < 4 && readBits(1) == 1) {
                ones++;
            }
            switch (ones) {
                case 0:
                    return 0;
                case 1:
                    return readBits(SMALL_BITS) - SMALL_ADDED;
                case 2:
                    return readBits(MIDDLE_BITS) - MIDDLE_ADDED;
                case 3:
                    return readBits(LARGE_BITS) - LARGE_ADDED;
                default:
                    long high = readBits(WIDE_BITS - CELL_BITS);
                    return (high << CELL_BITS | readBits(CELL_BITS)) - WIDE_ADDED;
            }
        }

        private int readDifference() {
            int z = 0;
            // The 0 behind the last bits of Z is read here too, even behind all 32 of them.
            for (int shift = 0; readBits(1) == 1 && shift < CELL_BITS; shift += VALUE_BITS) {
                z |= (int) readBits(VALUE_BITS) << shift;
            }
            return (z & 1) == 0 ? z >>> 1 : -(z >>> 1) - 1;
        }

        /** Of 1 to 32 BITS, as more could lie in three CELLS. */
        private long readBits(int count) {
            int k = place + 2 + bitsRead / CELL_BITS;
            long twoCells = (long) disk.read(k) << CELL_BITS | (disk.read(k + 1) & LOW_BITS);
            long fromNext = twoCells << (bitsRead % CELL_BITS);
            bitsRead += count;
            return fromNext >>> (2 * CELL_BITS - count);
        }
    }

    /** The CHUNKS that there will be, made ready beside the DISK: nothing is WRITTEN before all have room. */
    private static final class Turn {
        private final Disk disk;
        private final Index index;
        private final Packer packer = new Packer();
        private final Summary open = new Summary();
        private final int[] image = new int[1 + MOST_CHUNKS * ENTRY_CELLS];
        private final int[] packedFrom = new int[MOST_CHUNKS];
        private final boolean[] taken = new boolean[AREA_CELLS];
        private int chunks = 0;
        private int chunksMade = 0;
        private int openFrom = 0;
        private boolean lacksSpace = false;

        Turn(Disk disk, Index index) {
            this.disk = disk;
            this.index = index;
        }

        void begin() {
            packer.clear();
            open.clear();
            chunks = 0;
            chunksMade = 0;
            lacksSpace = false;
            for (int k = 0; k < AREA_CELLS; k++) {
                taken[k] = false;
            }
            // CHUNKS that go keep their CELLS till the ROOT is WRITTEN, for power may go ahead of that.
            int all = index.chunks();
            for (int e = 0; e < all; e++) {
                take(index.at(e, ENTRY_PLACE), index.at(e, ENTRY_LENGTH));
            }
        }

        int chunks() {
            return chunks;
        }

        int chunksMade() {
            return chunksMade;
        }

        boolean lacksSpace() {
            return lacksSpace;
        }

        int pointsOpen() {
            return open.points;
        }

        void keep(int entry) {
            if (chunks >= MOST_CHUNKS) {
                lacksSpace = true;
                return;
            }
            for (int field = 0; field < ENTRY_CELLS; field++) {
                image[1 + chunks * ENTRY_CELLS + field] = index.at(entry, field);
            }
            packedFrom[chunks] = NONE;
            chunks++;
        }

        void pack(int time, int value) {
            if (open.points == 0) {
                openFrom = packer.used();
                packer.packFirst(time, value);
            } else {
                packer.packFurther(time, value);
            }
            open.addPoint(time, value);
        }

        void seal(int series) {
            if (open.points == 0) {
                return;
            }
            int length = packer.used() - openFrom;
            int place = findPlace(length);
            if (packer.isFull() || place == NONE || chunks >= MOST_CHUNKS) {
                lacksSpace = true;
            } else {
                take(place, length);
                addEntry(series, place, length);
            }
            chunksMade++;
            open.clear();
        }

        /** Answers false if power went ahead of the last WRITE. */
        boolean writeOut(int epoch) {
            int side = 1 - disk.side();
            return writeChunks() && writeIndex(indexOfSide(side)) && disk.write(ROOT, 2 * epoch + side);
        }

        private void addEntry(int series, int place, int length) {
            int entry = 1 + chunks * ENTRY_CELLS;
            image[entry + ENTRY_SERIES] = series;
            image[entry + ENTRY_FIRST] = open.first;
            image[entry + ENTRY_LAST] = open.last;
            image[entry + ENTRY_POINTS] = open.points;
            image[entry + ENTRY_LEAST] = open.least;
            image[entry + ENTRY_GREATEST] = open.greatest;
            image[entry + ENTRY_SUM_HIGH] = (int) (open.sum >> CELL_BITS);
            image[entry + ENTRY_SUM_LOW] = (int) open.sum;
            image[entry + ENTRY_PLACE] = place;
            image[entry + ENTRY_LENGTH] = length;
            packedFrom[chunks] = openFrom;
            chunks++;
        }

        private int findPlace(int length) {
            int free = 0;
            for (int k = 0; k < AREA_CELLS; k++) {
                free = taken[k] ? 0 : free + 1;
                if (free == length) {
                    return AREA + k + 1 - length;
                }
            }
            return NONE;
        }

        private void take(int place, int length) {
            for (int k = place - AREA; k < place - AREA + length; k++) {
                if (k >= 0 && k < AREA_CELLS) {
                    taken[k] = true;
                }
            }
        }

        private boolean writeChunks() {
            for (int c = 0; c < chunks; c++) {
                if (packedFrom[c] != NONE && !writeCellsOf(c)) {
                    return false;
                }
            }
            return true;
        }

        private boolean writeCellsOf(int chunk) {
            int entry = 1 + chunk * ENTRY_CELLS;
            int place = image[entry + ENTRY_PLACE];
            int length = image[entry + ENTRY_LENGTH];
            for (int k = 0; k < length; k++) {
                if (!disk.write(place + k, packer.at(packedFrom[chunk] + k))) {
                    return false;
                }
            }
            return true;
        }

        private boolean writeIndex(int from) {
            image[0] = chunks;
            for (int k = 0; k < 1 + chunks * ENTRY_CELLS; k++) {
                if (!disk.write(from + k, image[k])) {
                    return false;
                }
            }
            return true;
        }
    }

    /** Finds what the POINTS asked for come to, with as few CHUNKS unpacked as the GROUPS allow. */
    private static final class Asking {
        private final Index index;
        private final Log log;
        private final Unpacker unpacker;
        private final int ratio;
        private final Summary found = new Summary();
        private final Summary part = new Summary();
        private int looks = 0;
        private int unpacked = 0;

        Asking(Index index, Log log, Unpacker unpacker, int ratio) {
            this.index = index;
            this.log = log;
            this.unpacker = unpacker;
            this.ratio = ratio;
        }

        int looks() {
            return looks;
        }

        int unpacked() {
            return unpacked;
        }

        Summary summaryOf(int first, int end) {
            part.clear();
            for (int e = first; e < end; e++) {
                part.addEntry(index, e);
            }
            return part;
        }

        Summary ask(int series, int from, int to) {
            int end = index.endOf(series);
            looks = 0;
            unpacked = 0;
            found.clear();
            // RATIO is never below 2; said here, it shows that the loop ends.
            int step = Math.max(LEAST_RATIO, ratio);
            for (int first = index.firstOf(series); first < end; first += step) {
                int groupEnd = Math.min(first + step, end);
                Summary group = summaryOf(first, groupEnd);
                looks++;
                if (group.isOut(from, to)) {
                    continue;
                }
                if (group.isIn(from, to)) {
                    found.addSummary(group);
                } else {
                    askEntries(first, groupEnd, from, to);
                }
            }
            askHead(series, from, to);
            return found;
        }

        private void askEntries(int first, int end, int from, int to) {
            for (int e = first; e < end; e++) {
                Summary entry = summaryOf(e, e + 1);
                looks++;
                if (entry.isOut(from, to)) {
                    continue;
                }
                if (entry.isIn(from, to)) {
                    found.addSummary(entry);
                    continue;
                }
                unpacked++;
                unpacker.open(index.at(e, ENTRY_PLACE));
                for (int p = 0; p < entry.points; p++) {
                    unpacker.step();
                    addIfAsked(unpacker.time, unpacker.value, from, to);
                }
            }
        }

        private void askHead(int series, int from, int to) {
            for (int b = 0; b < log.logged(); b++) {
                if (log.at(b, BLOCK_SERIES) == series) {
                    addIfAsked(log.at(b, BLOCK_TIME), log.at(b, BLOCK_VALUE), from, to);
                }
            }
        }

        private void addIfAsked(int time, int value, int from, int to) {
            if (time >= from && time <= to) {
                found.addPoint(time, value);
            }
        }
    }

    /** Behind its POINTS it is closed, for a CURSOR that stands there answers as none does. */
    private static final class Cursor {
        private final Index index;
        private final Log log;
        private final Unpacker unpacker;
        private boolean isOpen = false;
        private int series = 0;
        private int from = 0;
        private int to = 0;
        private int entry = 0;
        private int entriesEnd = 0;
        private int pointsLeft = 0;
        private int block = 0;
        private int time = 0;
        private int value = 0;

        Cursor(Disk disk, Index index, Log log) {
            this.index = index;
            this.log = log;
            // Not the one of the others, for it stays amid a CHUNK from one call to the next.
            this.unpacker = new Unpacker(disk);
        }

        void close() {
            isOpen = false;
            time = 0;
            value = 0;
        }

        void open(int ofSeries, int fromTime, int toTime) {
            isOpen = true;
            series = ofSeries;
            from = fromTime;
            to = toTime;
            entry = index.firstOf(ofSeries);
            entriesEnd = index.endOf(ofSeries);
            pointsLeft = 0;
            block = 0;
        }

        boolean advance() {
            if (isOpen && (findInChunks() || findInHead()) && time <= to) {
                return true;
            }
            close();
            return false;
        }

        private boolean findInChunks() {
            if (pointsLeft == 0) {
                openChunk();
            }
            while (pointsLeft > 0) {
                pointsLeft--;
                unpacker.step();
                if (unpacker.time >= from) {
                    standAt(unpacker.time, unpacker.value);
                    return true;
                }
            }
            return false;
        }

        /** Passes over CHUNKS without a POINT from the first TIME on; so in an opened one there always is one. */
        private void openChunk() {
            while (entry < entriesEnd && pointsLeft == 0) {
                if (index.at(entry, ENTRY_LAST) >= from) {
                    unpacker.open(index.at(entry, ENTRY_PLACE));
                    pointsLeft = index.at(entry, ENTRY_POINTS);
                }
                entry++;
            }
        }

        private boolean findInHead() {
            while (block < log.logged()) {
                int b = block;
                block++;
                if (log.at(b, BLOCK_SERIES) == series && log.at(b, BLOCK_TIME) >= from) {
                    standAt(log.at(b, BLOCK_TIME), log.at(b, BLOCK_VALUE));
                    return true;
                }
            }
            return false;
        }

        private void standAt(int foundTime, int foundValue) {
            time = foundTime;
            value = foundValue;
        }
    }
}
