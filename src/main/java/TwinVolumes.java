import java.util.Arrays;
import java.util.NoSuchElementException;

/** Two volumes that copy what they write, their snapshots, and streams between them (../shared/DOC.md). */
public final class TwinVolumes {
    public static final int NONE = -1;
    public static final int DONE = 0;
    public static final int BAD = 1;
    public static final int BASE = 2;
    public static final int DIRTY = 3;
    public static final int HAVE = 4;
    public static final int FULL = 5;
    public static final int BUSY = 6;
    public static final int MORE = 7;

    private static final int PLACES = 512;
    private static final int FAN = 8;
    private static final int FAN_BITS = 3;
    private static final int TOP_LEVEL = 3;
    private static final int LEAST_BLOCKS = 4;
    private static final int MOST_BLOCKS = 600;
    private static final int FIRST_BLOCKS = 100;
    private static final int MOST_SNAPSHOTS = 20;

    // A slot is where a POINTER stands: those of block b are b * 8 to b * 8 + 7, then come the TREES' own.
    private static final int LIVE = MOST_BLOCKS * FAN;
    private static final int HIDDEN = LIVE + 1;
    private static final int FIRST_SNAPSHOT = LIVE + 2;
    private static final int SLOTS = FIRST_SNAPSHOT + MOST_SNAPSHOTS;

    private static final int BEGIN_RECORD = 1;
    private static final int WRITE_RECORD = 2;
    private static final int CLEAR_RECORD = 3;
    private static final int END_RECORD = 4;
    private static final int SUM_SIZE = 8;
    private static final int BEGIN_SIZE = 17 + SUM_SIZE;
    private static final int WRITE_SIZE = 11 + SUM_SIZE;
    private static final int CLEAR_SIZE = 5 + SUM_SIZE;
    private static final int END_SIZE = 5 + SUM_SIZE;
    // No two RECORDS of one STREAM tell the same PLACE, and a WRITE is the longest that tells one.
    private static final int MOST_BYTES = BEGIN_SIZE + PLACES * WRITE_SIZE + END_SIZE;

    private final StreamBytes bytes;
    private final Sending sending;
    private final Volume volumeZero;
    private final Volume volumeOne;
    private final Receiving receivingZero;
    private final Receiving receivingOne;
    private long nextMark;

    public TwinVolumes() {
        bytes = new StreamBytes();
        sending = new Sending(bytes);
        volumeZero = new Volume();
        volumeOne = new Volume();
        receivingZero = new Receiving(volumeZero, bytes);
        receivingOne = new Receiving(volumeOne, bytes);
        nextMark = 1;
    }

    public void format(int volume, int blocks) throws IllegalArgumentException {
        Volume found = find(volume);
        if (found == null || blocks < LEAST_BLOCKS || blocks > MOST_BLOCKS) {
            throw new IllegalArgumentException();
        }
        found.startAnew(blocks);
        receivingOf(volume).forget();
    }

    public int write(int volume, int place, long v) throws IllegalArgumentException {
        Volume found = find(volume);
        if (found == null || !isPlace(place)) {
            throw new IllegalArgumentException();
        }
        if (found.isBusy()) {
            return BUSY;
        }
        boolean done = found.writePlace(LIVE, place, v);
        found.settle();
        return done ? DONE : FULL;
    }

    public int clear(int volume, int place) throws IllegalArgumentException {
        Volume found = find(volume);
        if (found == null || !isPlace(place)) {
            throw new IllegalArgumentException();
        }
        if (found.isBusy()) {
            return BUSY;
        }
        boolean done = found.clearPlace(LIVE, place);
        found.settle();
        return done ? DONE : FULL;
    }

    public long read(int volume, int k, int place) throws IllegalArgumentException, NoSuchElementException {
        Volume found = find(volume);
        if (found == null || !isPlace(place)) {
            throw new IllegalArgumentException();
        }
        if (k != NONE && !found.hasSnapshot(k)) {
            throw new NoSuchElementException();
        }
        return found.readPlace(k == NONE ? LIVE : FIRST_SNAPSHOT + k, place);
    }

    public int snapshot(int volume)
            throws IllegalArgumentException, IllegalStateException, UnsupportedOperationException {
        Volume found = find(volume);
        if (found == null) {
            throw new IllegalArgumentException();
        }
        if (found.isBusy()) {
            throw new IllegalStateException();
        }
        if (found.snapshots() >= MOST_SNAPSHOTS) {
            throw new UnsupportedOperationException();
        }
        int number = found.keepLive(nextMark);
        nextMark++;
        return number;
    }

    public int destroy(int volume, int k)
            throws IllegalArgumentException, IllegalStateException, NoSuchElementException {
        Volume found = find(volume);
        if (found == null) {
            throw new IllegalArgumentException();
        }
        if (found.isBusy()) {
            throw new IllegalStateException();
        }
        if (!found.hasSnapshot(k)) {
            throw new NoSuchElementException();
        }
        return found.dropSnapshot(k);
    }

    public int rollback(int volume)
            throws IllegalArgumentException, IllegalStateException, NoSuchElementException {
        Volume found = find(volume);
        if (found == null) {
            throw new IllegalArgumentException();
        }
        if (found.isBusy()) {
            throw new IllegalStateException();
        }
        if (found.snapshots() == 0) {
            throw new NoSuchElementException();
        }
        return found.returnToLatest();
    }

    public int send(int volume, int base, int target)
            throws IllegalArgumentException, NoSuchElementException, IllegalStateException {
        Volume found = find(volume);
        if (found == null) {
            throw new IllegalArgumentException();
        }
        if (!found.hasSnapshot(target)) {
            throw new NoSuchElementException();
        }
        if (base != NONE && (base < 0 || base >= target)) {
            throw new IllegalStateException();
        }
        sending.fillStream(found, base, target);
        return bytes.length();
    }

    public int receive(int volume) throws IllegalArgumentException {
        if (find(volume) == null) {
            throw new IllegalArgumentException();
        }
        return receivingOf(volume).takeBegin();
    }

    public int step(int volume, int n) throws IllegalArgumentException, IllegalStateException {
        Volume found = find(volume);
        if (found == null || n < 1) {
            throw new IllegalArgumentException();
        }
        if (!found.isBusy()) {
            throw new IllegalStateException();
        }
        return receivingOf(volume).takeRecords(n);
    }

    public boolean crash(int volume) throws IllegalArgumentException {
        Volume found = find(volume);
        if (found == null) {
            throw new IllegalArgumentException();
        }
        boolean was = found.isBusy();
        found.dropHidden();
        return was;
    }

    public int stream(int i) {
        return bytes.at(i);
    }

    public int patch(int i, int v) throws NoSuchElementException {
        if (i < 0 || i >= bytes.length()) {
            throw new NoSuchElementException();
        }
        int was = bytes.at(i);
        bytes.put(i, v);
        return was;
    }

    public void cut(int n) throws IllegalArgumentException {
        if (n < 0 || n > bytes.length()) {
            throw new IllegalArgumentException();
        }
        bytes.shorten(n);
    }

    public long snap(int volume, int k, int what) {
        Volume found = find(volume);
        if (found == null || !found.hasSnapshot(k)) {
            return NONE;
        }
        switch (what) {
            case 0:
                return found.markOf(k);
            case 1:
                return found.generationOf(k);
            case 2:
                return found.blocks().told(FIRST_SNAPSHOT + k);
            case 3:
                return found.blocks().birth(FIRST_SNAPSHOT + k);
            default:
                return NONE;
        }
    }

    public int block(int volume, int b, int what) {
        Volume found = find(volume);
        if (found == null || !found.blocks().has(b)) {
            return NONE;
        }
        switch (what) {
            case 0:
                return found.blocks().level(b);
            case 1:
                return found.blocks().birthOfBlock(b);
            case 2:
                return found.blocks().tellers(b);
            default:
                return NONE;
        }
    }

    public int pointer(int volume, int b, int i, int what) {
        Volume found = find(volume);
        if (found == null || !found.blocks().has(b) || i < 0 || i >= FAN) {
            return NONE;
        }
        if (found.blocks().level(b) < 1) {
            return NONE;
        }
        switch (what) {
            case 0:
                return found.blocks().told(b * FAN + i);
            case 1:
                return found.blocks().birth(b * FAN + i);
            default:
                return NONE;
        }
    }

    public long data(int volume, int b) {
        Volume found = find(volume);
        if (found == null || !found.blocks().has(b) || found.blocks().level(b) != 0) {
            return 0;
        }
        return found.blocks().number(b);
    }

    public int look(int volume, int what) {
        Volume found = find(volume);
        if (found == null) {
            return NONE;
        }
        switch (what) {
            case 0:
                return found.blocks().count();
            case 1:
                return found.blocks().free();
            case 2:
                return found.generation();
            case 3:
                return found.snapshots();
            case 4:
                return found.isBusy() ? 1 : 0;
            case 5:
                return found.blocks().told(LIVE);
            case 6:
                return found.blocks().birth(LIVE);
            case 7:
                return found.blocks().told(HIDDEN);
            case 8:
                return receivingOf(volume).received();
            default:
                return NONE;
        }
    }

    public int sent(int what) {
        switch (what) {
            case 0:
                return sending.writes();
            case 1:
                return sending.clears();
            case 2:
                return sending.seen();
            case 3:
                return bytes.length();
            case 4:
                return (int) nextMark;
            default:
                return NONE;
        }
    }

    private Volume find(int volume) {
        return volume == 0 ? volumeZero : volume == 1 ? volumeOne : null;
    }

    /** Of a volume that find() has found. */
    private Receiving receivingOf(int volume) {
        return volume == 0 ? receivingZero : receivingOne;
    }

    private static boolean isPlace(int place) {
        return place >= 0 && place < PLACES;
    }

    /** Ints by number; outside it there is NONE, and nothing is put there. */
    private static final class IntRow {
        private final int[] cells;

        IntRow(int size) {
            cells = new int[Math.max(size, 0)];
        }

        int at(int i) {
            return i >= 0 && i < cells.length ? cells[i] : NONE;
        }

        void put(int i, int v) {
            if (i >= 0 && i < cells.length) {
                cells[i] = v;
            }
        }

        void fill(int v) {
            Arrays.fill(cells, v);
        }
    }

    /** Longs by number; outside it there is 0, and nothing is put there. */
    private static final class LongRow {
        private final long[] cells;

        LongRow(int size) {
            cells = new long[Math.max(size, 0)];
        }

        long at(int i) {
            return i >= 0 && i < cells.length ? cells[i] : 0;
        }

        void put(int i, long v) {
            if (i >= 0 && i < cells.length) {
                cells[i] = v;
            }
        }
    }

    /** The BLOCKS of a volume and all its POINTERS, the TREES' own too; it counts the POINTERS to each block. */
    private static final class Blocks {
        private final IntRow levels = new IntRow(MOST_BLOCKS);
        private final IntRow birthsOfBlocks = new IntRow(MOST_BLOCKS);
        private final IntRow tellers = new IntRow(MOST_BLOCKS);
        private final LongRow numbers = new LongRow(MOST_BLOCKS);
        private final IntRow told = new IntRow(SLOTS);
        private final IntRow births = new IntRow(SLOTS);
        // Blocks that no POINTER tells any more; they are FREE only when the call or RECORD is done.
        private final IntRow loose = new IntRow(MOST_BLOCKS);
        private int looseCount;
        private int count;
        private int free;

        void startAnew(int blocks) {
            levels.fill(NONE);
            tellers.fill(0);
            told.fill(NONE);
            births.fill(0);
            looseCount = 0;
            count = blocks;
            free = blocks;
        }

        int count() {
            return count;
        }

        int free() {
            return free;
        }

        boolean has(int b) {
            return b >= 0 && b < count;
        }

        int level(int b) {
            return levels.at(b);
        }

        int birthOfBlock(int b) {
            return levels.at(b) == NONE ? NONE : birthsOfBlocks.at(b);
        }

        int tellers(int b) {
            return tellers.at(b);
        }

        long number(int b) {
            return numbers.at(b);
        }

        void putNumber(int b, long v) {
            numbers.put(b, v);
        }

        int told(int slot) {
            return told.at(slot);
        }

        int birth(int slot) {
            return births.at(slot);
        }

        /** The slot in block b that is on the way to the PLACE; NONE below a HOLE. */
        int slotIn(int b, int place) {
            int level = levels.at(b);
            if (level < 1) {
                return NONE;
            }
            return b * FAN + ((place >> (FAN_BITS * (level - 1))) & (FAN - 1));
        }

        void point(int slot, int b, int birth) {
            int old = told.at(slot);
            // The new one is counted first: it may be the old one, which must not come loose.
            if (b != NONE) {
                tellers.put(b, tellers.at(b) + 1);
            }
            told.put(slot, b);
            births.put(slot, birth);
            if (old != NONE) {
                tellers.put(old, tellers.at(old) - 1);
                if (tellers.at(old) == 0) {
                    loose.put(looseCount, old);
                    looseCount++;
                }
            }
        }

        boolean hasOnlyHoles(int b) {
            for (int i = 0; i < FAN; i++) {
                if (told.at(b * FAN + i) != NONE) {
                    return false;
                }
            }
            return true;
        }

        boolean wantsNewBlock(int slot, int generation) {
            return told.at(slot) == NONE || births.at(slot) != generation;
        }

        /** Gives the slot's POINTER a new block, with what the old one has, unless it has one of this GENERATION. */
        void renew(int slot, int level, int generation) {
            if (!wantsNewBlock(slot, generation)) {
                return;
            }
            int b = takeLeastFree();
            levels.put(b, level);
            birthsOfBlocks.put(b, generation);
            int old = told.at(slot);
            for (int i = 0; i < FAN && level > 0; i++) {
                if (old == NONE) {
                    point(b * FAN + i, NONE, births.at(slot));
                } else {
                    point(b * FAN + i, told.at(old * FAN + i), births.at(old * FAN + i));
                }
            }
            point(slot, b, generation);
        }

        private int takeLeastFree() {
            for (int b = 0; b < count; b++) {
                if (levels.at(b) == NONE) {
                    free--;
                    return b;
                }
            }
            return NONE;
        }

        void settle() {
            for (int turn = 0; turn < MOST_BLOCKS && looseCount > 0; turn++) {
                looseCount--;
                int b = loose.at(looseCount);
                for (int i = 0; i < FAN && levels.at(b) > 0; i++) {
                    point(b * FAN + i, NONE, 0);
                }
                levels.put(b, NONE);
                free++;
            }
        }
    }

    /** A volume: its TREES, SNAPSHOTS and GENERATION. */
    private static final class Volume {
        private final Blocks blocks = new Blocks();
        private final LongRow marks = new LongRow(MOST_SNAPSHOTS);
        private final IntRow generations = new IntRow(MOST_SNAPSHOTS);
        private int generation;
        private int snapshots;
        private boolean busy;

        Volume() {
            startAnew(FIRST_BLOCKS);
        }

        void startAnew(int count) {
            blocks.startAnew(count);
            generation = 1;
            snapshots = 0;
            busy = false;
        }

        Blocks blocks() {
            return blocks;
        }

        int generation() {
            return generation;
        }

        int snapshots() {
            return snapshots;
        }

        boolean isBusy() {
            return busy;
        }

        boolean hasSnapshot(int k) {
            return k >= 0 && k < snapshots;
        }

        long markOf(int k) {
            return marks.at(k);
        }

        int generationOf(int k) {
            return generations.at(k);
        }

        void settle() {
            blocks.settle();
        }

        long readPlace(int tree, int place) {
            int b = blocks.told(slotToLevel(tree, place, 0));
            return b == NONE ? 0 : blocks.number(b);
        }

        /** Whether it was done: not, if it is FULL. */
        boolean writePlace(int tree, int place, long v) {
            if (newBlocksWanted(tree, place, 0) > blocks.free()) {
                return false;
            }
            int slot = tree;
            for (int level = TOP_LEVEL; level > 0; level--) {
                blocks.renew(slot, level, generation);
                slot = blocks.slotIn(blocks.told(slot), place);
            }
            blocks.renew(slot, 0, generation);
            blocks.putNumber(blocks.told(slot), v);
            return true;
        }

        /** Whether it was done, also if there was nothing to do: not, if it is FULL. */
        boolean clearPlace(int tree, int place) {
            if (blocks.told(slotToLevel(tree, place, 0)) == NONE) {
                return true;
            }
            if (newBlocksWanted(tree, place, 1) > blocks.free()) {
                return false;
            }
            int slot = tree;
            for (int level = TOP_LEVEL; level > 0; level--) {
                blocks.renew(slot, level, generation);
                slot = blocks.slotIn(blocks.told(slot), place);
            }
            blocks.point(slot, NONE, generation);
            for (int level = 1; level <= TOP_LEVEL; level++) {
                makeHoleIfEmpty(slotToLevel(tree, place, level));
            }
            return true;
        }

        private void makeHoleIfEmpty(int slot) {
            if (blocks.hasOnlyHoles(blocks.told(slot))) {
                blocks.point(slot, NONE, generation);
            }
        }

        /** The slot on the way to the PLACE whose POINTER tells, or would tell, a block of this level; NONE below a HOLE. */
        private int slotToLevel(int tree, int place, int level) {
            int slot = tree;
            for (int above = TOP_LEVEL; above > level; above--) {
                slot = blocks.slotIn(blocks.told(slot), place);
            }
            return slot;
        }

        private int newBlocksWanted(int tree, int place, int lowestLevel) {
            int wanted = 0;
            int slot = tree;
            for (int level = TOP_LEVEL; level >= lowestLevel; level--) {
                if (blocks.wantsNewBlock(slot, generation)) {
                    wanted++;
                }
                slot = blocks.slotIn(blocks.told(slot), place);
            }
            return wanted;
        }

        /** Makes a SNAPSHOT of the LIVE TREE: its number. */
        int keepLive(long mark) {
            int number = snapshots;
            blocks.point(FIRST_SNAPSHOT + number, blocks.told(LIVE), blocks.birth(LIVE));
            marks.put(number, mark);
            generations.put(number, generation);
            snapshots++;
            generation++;
            return number;
        }

        int dropSnapshot(int k) {
            snapshots--;
            for (int i = k; i < snapshots; i++) {
                int next = FIRST_SNAPSHOT + i + 1;
                blocks.point(next - 1, blocks.told(next), blocks.birth(next));
                marks.put(i, marks.at(i + 1));
                generations.put(i, generations.at(i + 1));
            }
            blocks.point(FIRST_SNAPSHOT + snapshots, NONE, 0);
            blocks.settle();
            return snapshots;
        }

        int returnToLatest() {
            int latest = FIRST_SNAPSHOT + snapshots - 1;
            blocks.point(LIVE, blocks.told(latest), blocks.birth(latest));
            blocks.settle();
            return snapshots - 1;
        }

        boolean isLatest(long mark) {
            return snapshots > 0 && marks.at(snapshots - 1) == mark;
        }

        boolean hasMark(long mark) {
            for (int k = 0; k < snapshots; k++) {
                if (marks.at(k) == mark) {
                    return true;
                }
            }
            return false;
        }

        boolean isDirty() {
            if (snapshots == 0) {
                return blocks.told(LIVE) != NONE;
            }
            int latest = FIRST_SNAPSHOT + snapshots - 1;
            return blocks.told(LIVE) != blocks.told(latest) || blocks.birth(LIVE) != blocks.birth(latest);
        }

        void makeHidden() {
            blocks.point(HIDDEN, blocks.told(LIVE), blocks.birth(LIVE));
            busy = true;
        }

        void dropHidden() {
            blocks.point(HIDDEN, NONE, 0);
            blocks.settle();
            busy = false;
        }

        void keepHidden(long mark) {
            blocks.point(LIVE, blocks.told(HIDDEN), blocks.birth(HIDDEN));
            keepLive(mark);
            blocks.point(HIDDEN, NONE, 0);
            busy = false;
        }
    }

    /** THE STREAM's bytes: RECORDS are put behind them, and numbers read from them. */
    private static final class StreamBytes {
        private final byte[] cells = new byte[MOST_BYTES];
        private int length;

        int length() {
            return length;
        }

        int at(int i) {
            return i >= 0 && i < length && i < cells.length ? cells[i] & 255 : NONE;
        }

        void put(int i, int v) {
            if (i >= 0 && i < cells.length) {
                cells[i] = (byte) v;
            }
        }

        void shorten(int n) {
            length = n;
        }

        void addBegin(long baseMark, long targetMark) {
            int from = length;
            addNumber(BEGIN_RECORD, 1);
            addNumber(baseMark, 8);
            addNumber(targetMark, 8);
            addNumber(sumOf(from, length), SUM_SIZE);
        }

        void addWrite(int place, long v) {
            int from = length;
            addNumber(WRITE_RECORD, 1);
            addNumber(place, 2);
            addNumber(v, 8);
            addNumber(sumOf(from, length), SUM_SIZE);
        }

        void addClear(int place, int places) {
            int from = length;
            addNumber(CLEAR_RECORD, 1);
            addNumber(place, 2);
            addNumber(places, 2);
            addNumber(sumOf(from, length), SUM_SIZE);
        }

        void addEnd(int records) {
            int from = length;
            addNumber(END_RECORD, 1);
            addNumber(records, 4);
            addNumber(sumOf(from, length), SUM_SIZE);
        }

        private void addNumber(long n, int size) {
            for (int i = size - 1; i >= 0; i--) {
                if (length < cells.length) {
                    put(length, (int) (n >>> (8 * i)));
                    length++;
                }
            }
        }

        long numberAt(int from, int size) {
            long n = 0;
            for (int i = 0; i < size; i++) {
                n = (n << 8) | (at(from + i) & 255);
            }
            return n;
        }

        /** Whether a RECORD of this size has all its bytes and the right SUM. */
        boolean isWhole(int from, int size) {
            if (size < SUM_SIZE || from + size > length) {
                return false;
            }
            int end = from + size - SUM_SIZE;
            return sumOf(from, end) == numberAt(end, SUM_SIZE);
        }

        private long sumOf(int from, int end) {
            int a = 1;
            int b = 0;
            for (int i = from; i < end; i++) {
                a += at(i);
                b += a;
            }
            return ((long) b << 32) | (a & 0xFFFFFFFFL);
        }
    }

    /** SENDING, and what is told of the latest. */
    private static final class Sending {
        private final StreamBytes bytes;
        private int since;
        private int writes;
        private int clears;
        private int seen;

        Sending(StreamBytes bytes) {
            this.bytes = bytes;
        }

        int writes() {
            return writes;
        }

        int clears() {
            return clears;
        }

        int seen() {
            return seen;
        }

        void fillStream(Volume volume, int base, int target) {
            writes = 0;
            clears = 0;
            seen = 0;
            since = base == NONE ? 0 : volume.generationOf(base);
            bytes.shorten(0);
            bytes.addBegin(base == NONE ? 0 : volume.markOf(base), volume.markOf(target));
            goOver(this, volume.blocks(), FIRST_SNAPSHOT + target, TOP_LEVEL, 0);
            bytes.addEnd(1 + writes + clears);
        }

        /** Goes over a POINTER that tells a block of this level, or is a HOLE, from this PLACE on. */
        private static void goOver(Sending sending, Blocks blocks, int slot, int level, int place) {
            if (level < 0 || blocks.birth(slot) <= sending.since) {
                return;
            }
            int b = blocks.told(slot);
            if (b == NONE) {
                sending.clears++;
                sending.bytes.addClear(place, 1 << (FAN_BITS * level));
                return;
            }
            sending.seen++;
            if (level == 0) {
                sending.writes++;
                sending.bytes.addWrite(place, blocks.number(b));
                return;
            }
            for (int i = 0; i < FAN; i++) {
                goOver(sending, blocks, b * FAN + i, level - 1, place + (i << (FAN_BITS * (level - 1))));
            }
        }
    }

    /** RECEIVING in one volume: how far THE STREAM is read. */
    private static final class Receiving {
        private final Volume volume;
        private final StreamBytes bytes;
        private int position;
        private int received;
        private long targetMark;

        Receiving(Volume volume, StreamBytes bytes) {
            this.volume = volume;
            this.bytes = bytes;
        }

        int received() {
            return received;
        }

        void forget() {
            received = 0;
        }

        int takeBegin() {
            if (volume.isBusy()) {
                return BUSY;
            }
            if (bytes.at(0) != BEGIN_RECORD || !bytes.isWhole(0, BEGIN_SIZE)) {
                return BAD;
            }
            long base = bytes.numberAt(1, 8);
            long target = bytes.numberAt(9, 8);
            if (base == 0 ? volume.snapshots() > 0 : !volume.isLatest(base)) {
                return BASE;
            }
            if (volume.isDirty()) {
                return DIRTY;
            }
            if (volume.hasMark(target)) {
                return HAVE;
            }
            volume.makeHidden();
            position = BEGIN_SIZE;
            received = 0;
            targetMark = target;
            return DONE;
        }

        int takeRecords(int n) {
            int status = MORE;
            for (int i = 0; i < n && status == MORE; i++) {
                status = takeRecord();
                volume.settle();
            }
            if (status == BAD || status == FULL) {
                volume.dropHidden();
            }
            return status;
        }

        private int takeRecord() {
            int kind = bytes.at(position);
            int size = sizeOf(kind);
            if (!bytes.isWhole(position, size)) {
                return BAD;
            }
            int status = kind == WRITE_RECORD ? takeWrite() : kind == CLEAR_RECORD ? takeClear() : takeEnd();
            if (status == MORE || status == DONE) {
                position += size;
                received++;
            }
            return status;
        }

        /** 0 of what may not be behind BEGIN. */
        private static int sizeOf(int kind) {
            switch (kind) {
                case WRITE_RECORD:
                    return WRITE_SIZE;
                case CLEAR_RECORD:
                    return CLEAR_SIZE;
                case END_RECORD:
                    return END_SIZE;
                default:
                    return 0;
            }
        }

        private int takeWrite() {
            int place = (int) bytes.numberAt(position + 1, 2);
            if (!isPlace(place)) {
                return BAD;
            }
            return volume.writePlace(HIDDEN, place, bytes.numberAt(position + 3, 8)) ? MORE : FULL;
        }

        private int takeClear() {
            int place = (int) bytes.numberAt(position + 1, 2);
            int places = (int) bytes.numberAt(position + 3, 2);
            if (!isPlace(place) || places < 1 || place + places > PLACES) {
                return BAD;
            }
            for (int i = 0; i < places; i++) {
                if (!volume.clearPlace(HIDDEN, place + i)) {
                    return FULL;
                }
            }
            return MORE;
        }

        private int takeEnd() {
            // BEGIN is ahead of END, too.
            if (bytes.numberAt(position + 1, 4) != 1L + received || position + END_SIZE != bytes.length()) {
                return BAD;
            }
            if (volume.snapshots() >= MOST_SNAPSHOTS) {
                return FULL;
            }
            volume.keepHidden(targetMark);
            return DONE;
        }
    }
}
