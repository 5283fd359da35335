import java.util.ArrayList;
import java.util.HashMap;
import java.util.List;
import java.util.Map;
import java.util.NoSuchElementException;
import java.util.TreeSet;

/** The document once more, as plainly as can be: what is FREE is found by going over all TREES after each call. */
public final class Model {
    private static final int NONE = -1;

    private record Pointer(int block, int birth) {
        boolean isHole() {
            return block == NONE;
        }
    }

    private static final class Block {
        int level;
        Pointer[] pointers = new Pointer[8];
        long data;

        Block copy() {
            Block b = new Block();
            b.level = level;
            b.pointers = pointers.clone();
            b.data = data;
            return b;
        }
    }

    private record Snapshot(Pointer tree, int generation, long mark) {
    }

    private static final class Volume {
        int size;
        Map<Integer, Block> used = new HashMap<>();
        int generation = 1;
        Pointer live = new Pointer(NONE, 0);
        Pointer hidden = null;
        List<Snapshot> snapshots = new ArrayList<>();
        int position;
        int received;
        long targetMark;
        Volume before;

        Volume(int size) {
            this.size = size;
        }

        Volume copy() {
            Volume v = new Volume(size);
            used.forEach((n, b) -> v.used.put(n, b.copy()));
            v.generation = generation;
            v.live = live;
            v.snapshots = new ArrayList<>(snapshots);
            return v;
        }

        List<Pointer> trees() {
            List<Pointer> trees = new ArrayList<>();
            trees.add(live);
            if (hidden != null) {
                trees.add(hidden);
            }
            snapshots.forEach(s -> trees.add(s.tree()));
            return trees;
        }

        void freeTheRest() {
            TreeSet<Integer> seen = new TreeSet<>();
            trees().forEach(t -> comeTo(t, seen));
            used.keySet().retainAll(seen);
        }

        private void comeTo(Pointer p, TreeSet<Integer> seen) {
            if (p.isHole() || !seen.add(p.block())) {
                return;
            }
            Block b = used.get(p.block());
            for (int i = 0; i < 8 && b.level > 0; i++) {
                comeTo(b.pointers[i], seen);
            }
        }

        int free() {
            return size - used.size();
        }

        Pointer fresh(Pointer old, int level) {
            if (!old.isHole() && old.birth() == generation) {
                return old;
            }
            Block b = new Block();
            if (old.isHole()) {
                for (int i = 0; i < 8; i++) {
                    b.pointers[i] = new Pointer(NONE, old.birth());
                }
            } else {
                b = used.get(old.block()).copy();
            }
            b.level = level;
            int number = 0;
            while (used.containsKey(number)) {
                number++;
            }
            used.put(number, b);
            return new Pointer(number, generation);
        }

        static int digit(int place, int level) {
            return level == 3 ? place / 64 : level == 2 ? place / 8 % 8 : place % 8;
        }

        /** The POINTERS on the way, until one comes to a HOLE. */
        List<Pointer> way(Pointer tree, int place) {
            List<Pointer> way = new ArrayList<>();
            way.add(tree);
            for (int level = 3; level > 0 && !way.get(way.size() - 1).isHole(); level--) {
                Block b = used.get(way.get(way.size() - 1).block());
                way.add(b.pointers[digit(place, level)]);
            }
            return way;
        }

        long read(Pointer tree, int place) {
            List<Pointer> way = way(tree, place);
            Pointer last = way.get(way.size() - 1);
            return last.isHole() ? 0 : used.get(last.block()).data;
        }

        /** The TREE's POINTER then; null if it is FULL. */
        Pointer written(Pointer tree, int place, long v) {
            List<Pointer> way = way(tree, place);
            int wanted = 4 - way.size();
            for (Pointer p : way) {
                wanted += p.isHole() || p.birth() != generation ? 1 : 0;
            }
            return wanted > free() ? null : writeBelow(tree, 3, place, v);
        }

        private Pointer writeBelow(Pointer p, int level, int place, long v) {
            Pointer q = fresh(p, level);
            Block b = used.get(q.block());
            if (level == 0) {
                b.data = v;
            } else {
                int i = digit(place, level);
                b.pointers[i] = writeBelow(b.pointers[i], level - 1, place, v);
            }
            return q;
        }

        Pointer cleared(Pointer tree, int place) {
            List<Pointer> way = way(tree, place);
            if (way.get(way.size() - 1).isHole()) {
                return tree;
            }
            int wanted = 0;
            for (Pointer p : way.subList(0, 3)) {
                wanted += p.birth() != generation ? 1 : 0;
            }
            return wanted > free() ? null : clearBelow(tree, 3, place);
        }

        private Pointer clearBelow(Pointer p, int level, int place) {
            if (level == 0) {
                return new Pointer(NONE, generation);
            }
            Pointer q = fresh(p, level);
            Block b = used.get(q.block());
            int i = digit(place, level);
            b.pointers[i] = clearBelow(b.pointers[i], level - 1, place);
            for (Pointer each : b.pointers) {
                if (!each.isHole()) {
                    return q;
                }
            }
            return new Pointer(NONE, generation);
        }

        int keep(long mark) {
            snapshots.add(new Snapshot(live, generation, mark));
            generation++;
            return snapshots.size() - 1;
        }

        Snapshot latest() {
            return snapshots.get(snapshots.size() - 1);
        }
    }

    private final Volume[] volumes = {new Volume(100), new Volume(100)};
    private List<Integer> stream = new ArrayList<>();
    private long nextMark = 1;
    private int writes;
    private int clears;
    private int seen;

    private Volume find(int volume) {
        if (volume != 0 && volume != 1) {
            throw new IllegalArgumentException();
        }
        return volumes[volume];
    }

    private static void checkPlace(int place) {
        if (place < 0 || place > 511) {
            throw new IllegalArgumentException();
        }
    }

    private static void checkSnapshot(Volume v, int k) {
        if (k < 0 || k >= v.snapshots.size()) {
            throw new NoSuchElementException();
        }
    }

    private static void checkNotBusy(Volume v) {
        if (v.hidden != null) {
            throw new IllegalStateException();
        }
    }

    public void format(int volume, int blocks) {
        find(volume);
        if (blocks < 4 || blocks > 600) {
            throw new IllegalArgumentException();
        }
        volumes[volume] = new Volume(blocks);
    }

    public int write(int volume, int place, long v) {
        Volume x = find(volume);
        checkPlace(place);
        return x.hidden != null ? 6 : changed(x, x.written(x.live, place, v));
    }

    public int clear(int volume, int place) {
        Volume x = find(volume);
        checkPlace(place);
        return x.hidden != null ? 6 : changed(x, x.cleared(x.live, place));
    }

    private static int changed(Volume x, Pointer tree) {
        if (tree == null) {
            return 5;
        }
        x.live = tree;
        x.freeTheRest();
        return 0;
    }

    public long read(int volume, int k, int place) {
        Volume x = find(volume);
        checkPlace(place);
        if (k != NONE) {
            checkSnapshot(x, k);
        }
        return x.read(k == NONE ? x.live : x.snapshots.get(k).tree(), place);
    }

    public int snapshot(int volume) {
        Volume x = find(volume);
        checkNotBusy(x);
        if (x.snapshots.size() == 20) {
            throw new UnsupportedOperationException();
        }
        return x.keep(nextMark++);
    }

    public int destroy(int volume, int k) {
        Volume x = find(volume);
        checkNotBusy(x);
        checkSnapshot(x, k);
        x.snapshots.remove(k);
        x.freeTheRest();
        return x.snapshots.size();
    }

    public int rollback(int volume) {
        Volume x = find(volume);
        checkNotBusy(x);
        checkSnapshot(x, 0);
        x.live = x.latest().tree();
        x.freeTheRest();
        return x.snapshots.size() - 1;
    }

    public int send(int volume, int base, int target) {
        Volume x = find(volume);
        checkSnapshot(x, target);
        if (base < NONE || base >= target) {
            throw new IllegalStateException();
        }
        Snapshot to = x.snapshots.get(target);
        stream = new ArrayList<>();
        writes = 0;
        clears = 0;
        seen = 0;
        record(1, base == NONE ? 0 : x.snapshots.get(base).mark(), 8, to.mark(), 8);
        goOver(x, to.tree(), base == NONE ? 0 : x.snapshots.get(base).generation(), 0, 512);
        record(4, 1 + writes + clears, 4, 0, 0);
        return stream.size();
    }

    private void goOver(Volume x, Pointer p, int since, int place, int places) {
        if (p.birth() <= since) {
            return;
        }
        if (p.isHole()) {
            clears++;
            record(3, place, 2, places, 2);
            return;
        }
        seen++;
        Block b = x.used.get(p.block());
        if (b.level == 0) {
            writes++;
            record(2, place, 2, b.data, 8);
            return;
        }
        for (int i = 0; i < 8; i++) {
            goOver(x, b.pointers[i], since, place + i * places / 8, places / 8);
        }
    }

    private void record(int kind, long one, int oneSize, long two, int twoSize) {
        List<Integer> bytes = new ArrayList<>();
        bytes.add(kind);
        number(bytes, one, oneSize);
        number(bytes, two, twoSize);
        long[] sum = sum(bytes);
        number(bytes, sum[0], 4);
        number(bytes, sum[1], 4);
        stream.addAll(bytes);
    }

    private static void number(List<Integer> bytes, long n, int size) {
        for (int i = size - 1; i >= 0; i--) {
            bytes.add((int) (n >> (8 * i) & 255));
        }
    }

    /** B, then A. */
    private static long[] sum(List<Integer> bytes) {
        long a = 1;
        long b = 0;
        for (int x : bytes) {
            a = (a + x) % 4294967296L;
            b = (b + a) % 4294967296L;
        }
        return new long[] {b, a};
    }

    private long numberAt(int from, int size) {
        long n = 0;
        for (int i = from; i < from + size; i++) {
            n = n * 256 + stream.get(i);
        }
        return n;
    }

    private boolean isRecord(int from, int size) {
        if (from + size > stream.size()) {
            return false;
        }
        long[] sum = sum(stream.subList(from, from + size - 8));
        return numberAt(from + size - 8, 4) == sum[0] && numberAt(from + size - 4, 4) == sum[1];
    }

    public int receive(int volume) {
        Volume x = find(volume);
        if (x.hidden != null) {
            return 6;
        }
        if (stream.isEmpty() || stream.get(0) != 1 || !isRecord(0, 25)) {
            return 1;
        }
        long base = numberAt(1, 8);
        long target = numberAt(9, 8);
        boolean none = x.snapshots.isEmpty();
        if (base != 0 && (none || x.latest().mark() != base) || base == 0 && !none) {
            return 2;
        }
        if (none ? !x.live.isHole() : !x.live.equals(x.latest().tree())) {
            return 3;
        }
        if (x.snapshots.stream().anyMatch(s -> s.mark() == target)) {
            return 4;
        }
        x.before = x.copy();
        x.hidden = x.live;
        x.position = 25;
        x.received = 0;
        x.targetMark = target;
        return 0;
    }

    public int step(int volume, int n) {
        Volume x = find(volume);
        if (n < 1) {
            throw new IllegalArgumentException();
        }
        if (x.hidden == null) {
            throw new IllegalStateException();
        }
        for (int i = 0; i < n; i++) {
            int status = takeRecord(x);
            if (status == 1 || status == 5) {
                end(volume);
                return status;
            }
            x.received++;
            x.freeTheRest();
            if (status == 0) {
                return 0;
            }
        }
        return 7;
    }

    private void end(int volume) {
        Volume x = volumes[volume];
        volumes[volume] = x.before;
        volumes[volume].received = x.received;
    }

    private int takeRecord(Volume x) {
        int at = x.position;
        int kind = at < stream.size() ? stream.get(at) : 0;
        if (kind < 2 || kind > 4 || !isRecord(at, kind == 2 ? 19 : 13)) {
            return 1;
        }
        x.position += kind == 2 ? 19 : 13;
        if (kind == 4) {
            return takeEnd(x, numberAt(at + 1, 4));
        }
        int place = (int) numberAt(at + 1, 2);
        int places = kind == 2 ? 1 : (int) numberAt(at + 3, 2);
        if (place > 511 || places == 0 || place + places - 1 > 511) {
            return 1;
        }
        for (int p = place; p < place + places; p++) {
            Pointer tree = kind == 2 ? x.written(x.hidden, p, numberAt(at + 3, 8)) : x.cleared(x.hidden, p);
            if (tree == null) {
                return 5;
            }
            x.hidden = tree;
        }
        return 7;
    }

    private int takeEnd(Volume x, long told) {
        if (told != x.received + 1 || x.position != stream.size()) {
            return 1;
        }
        if (x.snapshots.size() == 20) {
            return 5;
        }
        x.live = x.hidden;
        x.hidden = null;
        x.keep(x.targetMark);
        return 0;
    }

    public boolean crash(int volume) {
        if (find(volume).hidden == null) {
            return false;
        }
        end(volume);
        return true;
    }

    public int stream(int i) {
        return i < 0 || i >= stream.size() ? NONE : stream.get(i);
    }

    public int patch(int i, int v) {
        if (i < 0 || i >= stream.size()) {
            throw new NoSuchElementException();
        }
        return stream.set(i, v & 255);
    }

    public void cut(int n) {
        if (n < 0 || n > stream.size()) {
            throw new IllegalArgumentException();
        }
        stream = new ArrayList<>(stream.subList(0, n));
    }

    public long snap(int volume, int k, int what) {
        if (volume < 0 || volume > 1 || k < 0 || k >= volumes[volume].snapshots.size()) {
            return NONE;
        }
        Snapshot s = volumes[volume].snapshots.get(k);
        long[] answers = {s.mark(), s.generation(), s.tree().block(), s.tree().birth()};
        return what < 0 || what > 3 ? NONE : answers[what];
    }

    public int block(int volume, int b, int what) {
        if (volume < 0 || volume > 1 || b < 0 || b >= volumes[volume].size || what < 0 || what > 2) {
            return NONE;
        }
        Volume x = volumes[volume];
        if (!x.used.containsKey(b)) {
            return what == 2 ? 0 : NONE;
        }
        List<Pointer> all = x.trees();
        for (Block each : x.used.values()) {
            if (each.level > 0) {
                all.addAll(List.of(each.pointers));
            }
        }
        all.removeIf(p -> p.block() != b);
        return what == 0 ? x.used.get(b).level : what == 1 ? all.get(0).birth() : all.size();
    }

    public int pointer(int volume, int b, int i, int what) {
        if (volume < 0 || volume > 1 || i < 0 || i > 7 || what < 0 || what > 1) {
            return NONE;
        }
        Block block = volumes[volume].used.get(b);
        if (block == null || block.level == 0) {
            return NONE;
        }
        return what == 0 ? block.pointers[i].block() : block.pointers[i].birth();
    }

    public long data(int volume, int b) {
        if (volume < 0 || volume > 1) {
            return 0;
        }
        Block block = volumes[volume].used.get(b);
        return block == null || block.level != 0 ? 0 : block.data;
    }

    public int look(int volume, int what) {
        if (volume < 0 || volume > 1 || what < 0 || what > 8) {
            return NONE;
        }
        Volume x = volumes[volume];
        int[] answers = {
            x.size, x.free(), x.generation, x.snapshots.size(), x.hidden != null ? 1 : 0,
            x.live.block(), x.live.birth(), x.hidden != null ? x.hidden.block() : NONE, x.received
        };
        return answers[what];
    }

    public int sent(int what) {
        int[] answers = {writes, clears, seen, stream.size(), (int) nextMark};
        return what < 0 || what > 4 ? NONE : answers[what];
    }
}
