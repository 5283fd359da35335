/** The document's Terms, parts 2 and 3, sentence by sentence: above each method stands the sentence that it is of. */
public final class TermsStreamTest {
    private static final int NONE = TwinVolumes.NONE;
    private static final int DONE = TwinVolumes.DONE;
    private static final int BAD = TwinVolumes.BAD;
    private static final int BASE = TwinVolumes.BASE;
    private static final int DIRTY = TwinVolumes.DIRTY;
    private static final int HAVE = TwinVolumes.HAVE;
    private static final int FULL = TwinVolumes.FULL;
    private static final int MORE = TwinVolumes.MORE;
    private static final int MAX = Integer.MAX_VALUE;

    // Sizes of RECORDS, as the document tells them.
    private static final int BEGIN = 1 + 8 + 8 + 8;
    private static final int WRITE = 1 + 2 + 8 + 8;
    private static final int CLEAR = 1 + 2 + 2 + 8;
    private static final int END = 1 + 4 + 8;

    public static void main(String[] args) {
        highestByteFirst();
        sumIsBThenA();
        greatestSums();
        beginTellsBothMarks();
        endTellsHowManyAreAhead();
        eachWhollyInTheirOrder();
        birthsNotAboveTheBase();
        withoutABaseAboveZero();
        holesBringClears();
        seenBlocks();
        readsFromTheBeginning();
        recordsWithoutAllTheirBytes();
        otherFirstBytes();
        placesAbove511();
        clearsOfNoneOrAbove511();
        wrongSums();
        endsOfAnotherNumber();
        bytesBehindEnd();
        base();
        baseOfMarkZero();
        dirty();
        have();
        theFirstOfBaseDirtyHave();
        hiddenAsTheLiveOne();
        writtenAndClearedThere();
        fullForOnePlaceOfAClear();
        endMakesTheSnapshot();
        badEndsIt();
        fullEndsIt();
        endWithTwentySnapshots();
        memoryIsTheVolumesOwn();
        Check.end("TermsStreamTest");
    }

    /** Volume 0 with one SNAPSHOT of these PLACES (PLACE p has p + 1), and the STREAM of it. */
    private static Volumes sent(int... written) {
        Volumes x = new Volumes();
        for (int place : written) {
            x.write(0, place, place + 1);
        }
        x.snapshot(0);
        x.send(0, NONE, 0);
        return x;
    }

    /** The same, received in volume 1, which is as volume 0 then. */
    private static Volumes received(int... written) {
        Volumes x = sent(written);
        Check.due("receive", x.receive(1), DONE);
        Check.due("step", x.step(1, MAX), DONE);
        return x;
    }

    /** Forges a STREAM without RECORDS behind BEGIN, for volume 1 as it is; the PLACE is one of volume 0's. */
    private static void beginAndEnd(Volumes x, long baseMark, long targetMark) {
        Check.putBegin(x, baseMark, targetMark);
        Check.putEnd(x, BEGIN, 1);
        x.cut(BEGIN + END);
    }

    /** "Numbers in them with the highest byte first." */
    private static void highestByteFirst() {
        Volumes x = new Volumes();
        x.write(0, 0x123, 0x8182838485868788L);
        x.snapshot(0);
        x.send(0, NONE, 0);
        int[] due = {2, 1, 0x23, 0x81, 0x82, 0x83, 0x84, 0x85, 0x86, 0x87, 0x88};
        for (int i = 0; i < due.length; i++) {
            Check.due("byte " + i + " of a WRITE", x.stream(BEGIN + i), due[i]);
        }
        x.receive(1);
        x.step(1, 2);
        Check.due("and read so", x.read(1, 0, 0x123), 0x8182838485868788L);
    }

    /** "For each of its other bytes b (0 to 255) A = A + b, then B = B + A; the SUM is B, then A." */
    private static void sumIsBThenA() {
        Volumes x = sent(511);
        Check.due("BEGIN's B: 17 + 17 of the first byte + 1 of the last", Check.number(x, 17, 4), 17 + 17 + 1);
        Check.due("BEGIN's A", Check.number(x, 21, 4), 1 + 1 + 1);
        int a = 1 + 2 + 1 + 255 + 2;
        Check.due("WRITE's B", Check.number(x, BEGIN + 11, 4), 11 + 2 * 11 + 10 + 255 * 9 + 2 * 2);
        Check.due("WRITE's A", Check.number(x, BEGIN + 15, 4), a);
        Check.due("END's B", Check.number(x, BEGIN + WRITE + 5, 4), 5 + 4 * 5 + 2);
        Check.due("END's A", Check.number(x, BEGIN + WRITE + 9, 4), 1 + 4 + 2);
        x.clear(0, 511);
        x.snapshot(0);
        x.send(0, 0, 1);
        Check.due("CLEAR's B", Check.number(x, BEGIN + 5, 4), 5 + 3 * 5 + 2 * 2);
        Check.due("CLEAR's A", Check.number(x, BEGIN + 9, 4), 1 + 3 + 2);
    }

    /** "Both modulo 2 to the 32": the greatest that a RECORD can have do not come there, and are told whole. */
    private static void greatestSums() {
        Volumes x = new Volumes();
        x.write(0, 511, -1);
        x.snapshot(0);
        x.send(0, NONE, 0);
        Check.due("WRITE's B", Check.number(x, BEGIN + 11, 4), 11 + 2 * 11 + 10 + 255 * (9 + 8 + 7 + 6 + 5 + 4 + 3 + 2 + 1));
        Check.due("WRITE's A", Check.number(x, BEGIN + 15, 4), 1 + 2 + 1 + 9 * 255);
        Check.putBegin(x, 0, -1);
        x.receive(1);
        Check.due("received with all bytes 255", x.step(1, 2), DONE);
        x.write(1, 0, 0);
        x.snapshot(1);
        x.send(1, 0, 1);
        Check.due("the base's MARK", Check.number(x, 1, 8), -1);
        Check.due("BEGIN's B", Check.number(x, 17, 4), 17 + 17 + 255 * (16 + 15 + 14 + 13 + 12 + 11 + 10 + 9) + 2);
        Check.due("BEGIN's A", Check.number(x, 21, 4), 1 + 1 + 8 * 255 + 2);
        Check.putBegin(x, -1, -1);
        x.destroy(1, 1);
        x.rollback(1);
        Check.due("the greatest of all is right", x.receive(1), HAVE);
        x.patch(17, 1);
        Check.due("not with 2 to the 24 more", x.receive(1), BAD);
    }

    /** "BEGIN: 1 (one byte), the base's MARK (8 bytes; 0 without a base), the target's MARK (8)." */
    private static void beginTellsBothMarks() {
        Volumes x = sent(7);
        Check.due("1", x.stream(0), 1);
        Check.due("without a base", Check.number(x, 1, 8), 0);
        Check.due("the target's", Check.number(x, 9, 8), 1);
        Check.putBegin(x, 0, 0x8090A0B0C0D0E0F0L);
        x.receive(1);
        x.step(1, MAX);
        x.snapshot(1);
        x.send(1, 0, 1);
        Check.due("the base's, all 8 bytes", Check.number(x, 1, 8), 0x8090A0B0C0D0E0F0L);
        Check.due("the target's then", Check.number(x, 9, 8), 2);
        x.send(1, NONE, 0);
        Check.due("without a base again", Check.number(x, 1, 8), 0);
        Check.due("the target's, all 8 bytes", Check.number(x, 9, 8), 0x8090A0B0C0D0E0F0L);
    }

    /** "END: 4, how many RECORDS are ahead of it (4)." */
    private static void endTellsHowManyAreAhead() {
        for (int writes : new int[] {0, 1, 2, 254, 255, 256}) {
            Volumes x = new Volumes();
            x.format(0, 600);
            for (int p = 0; p < writes; p++) {
                x.write(0, p, p);
            }
            x.snapshot(0);
            int end = BEGIN + WRITE * writes;
            Check.due("bytes with " + writes, x.send(0, NONE, 0), end + END);
            Check.due("4", x.stream(end), 4);
            Check.due("BEGIN and " + writes + " WRITES", Check.number(x, end + 1, 4), 1 + writes);
            x.format(1, 600);
            x.receive(1);
            Check.due("received with " + writes, x.step(1, writes + 1), DONE);
        }
    }

    /** "The target's TREE is gone over, from its POINTER on, those in a block in their order, each wholly." */
    private static void eachWhollyInTheirOrder() {
        Volumes x = sent();
        int[] places = {448, 511, 9, 63, 64, 8, 0, 7, 71};
        for (int place : places) {
            x.write(0, place, 600 + place);
        }
        x.clear(0, 63);
        x.clear(0, 7);
        x.snapshot(0);
        x.send(0, 0, 1);
        int[] order = {0, 7, 8, 9, 56, 64, 71, 448, 511};
        int at = BEGIN;
        for (int place : order) {
            boolean hole = place == 7 || place == 56;
            Check.due("PLACE", Check.number(x, at + 1, 2), place);
            Check.due("of " + place, x.stream(at), hole ? 3 : 2);
            at += hole ? CLEAR : WRITE;
        }
        Check.due("then END", x.stream(at), 4);
        Check.due("and nothing more", x.sent(3), at + END);
    }

    /** "A POINTER with a BIRTH not above the GENERATION of the base is passed over." */
    private static void birthsNotAboveTheBase() {
        Volumes x = sent();
        for (int k = 1; k <= 4; k++) {
            x.write(0, 8 * k, k);
            x.write(0, 500, k);
            x.snapshot(0);
        }
        for (int base = 0; base < 4; base++) {
            for (int target = base + 1; target <= 4; target++) {
                x.send(0, base, target);
                String what = base + " to " + target;
                Check.due(what + ": those above it, and 500", x.sent(0), target - base + 1);
                Check.due(what + ": the first is of the next GENERATION", Check.number(x, BEGIN + 1, 2), 8 * (base + 1));
            }
        }
        x.destroy(0, 2);
        x.send(0, 2, 3);
        Check.due("numbers of now, GENERATIONS of then", x.sent(0), 2);
        x.send(0, 1, 2);
        Check.due("two GENERATIONS", x.sent(0), 3);
    }

    /** "(0 without)": without a base a HOLE of BIRTH 0 is passed over, one of BIRTH 1 is not. */
    private static void withoutABaseAboveZero() {
        Volumes x = new Volumes();
        x.snapshot(0);
        Check.due("BIRTH 0", x.send(0, NONE, 0), BEGIN + END);
        Volumes y = new Volumes();
        y.write(0, 3, 3);
        y.clear(0, 3);
        y.snapshot(0);
        Check.due("BIRTH 1", y.send(0, NONE, 0), BEGIN + CLEAR + END);
        Check.due("a CLEAR", y.stream(BEGIN), 3);
        Check.due("received", y.receive(1), DONE);
        Check.due("it is a HOLE there", y.step(1, 2), DONE);
        Check.due("of BIRTH 0", y.snap(1, 0, 3), 0);
    }

    /** "A HOLE brings a CLEAR of all PLACES that it is on the way of." */
    private static void holesBringClears() {
        int[] cleared = {9, 16, 64, 0};
        int[] places = {1, 8, 64, 512};
        for (int i = 0; i < 4; i++) {
            Volumes x = new Volumes();
            x.write(0, cleared[i], 5);
            if (places[i] < 512) {
                x.write(0, 8, 8);
            }
            x.snapshot(0);
            x.clear(0, cleared[i]);
            x.snapshot(0);
            Check.due("one CLEAR", x.send(0, 0, 1), BEGIN + CLEAR + END);
            Check.due("3", x.stream(BEGIN), 3);
            Check.due("the first PLACE", Check.number(x, BEGIN + 1, 2), cleared[i]);
            Check.due("how many", Check.number(x, BEGIN + 3, 2), places[i]);
        }
    }

    /** "SEEN are the blocks, of all levels, whose POINTERS were not passed over." */
    private static void seenBlocks() {
        Volumes x = sent(0, 8, 64);
        Check.due("all of them", x.sent(2), 9);
        x.write(0, 0, 5);
        x.snapshot(0);
        x.send(0, 0, 1);
        Check.due("those on the way", x.sent(2), 4);
        x.clear(0, 0);
        x.snapshot(0);
        x.send(0, 1, 2);
        Check.due("on the way to a HOLE, which is none", x.sent(2), 2);
        x.snapshot(0);
        x.send(0, 2, 3);
        Check.due("none", x.sent(2), 0);
    }

    /** "RECEIVING in a volume reads the STREAM from its beginning." */
    private static void readsFromTheBeginning() {
        Volumes x = sent(3, 70, 200);
        x.receive(1);
        x.step(1, 2);
        x.crash(1);
        Check.due("again", x.receive(1), DONE);
        Check.due("three and END", x.step(1, 3), MORE);
        Check.due("from the first one on", x.step(1, 1), DONE);
        Check.due("PLACE 3", x.read(1, 0, 3), 4);
        Check.due("the other volume reads for itself", x.receive(0), BASE);
    }

    /** "A RECORD that has not all its bytes." */
    private static void recordsWithoutAllTheirBytes() {
        int whole = BEGIN + WRITE + CLEAR + END;
        for (int n = 0; n <= whole; n++) {
            Volumes x = received(9, 300);
            x.write(0, 9, 5);
            x.clear(0, 300);
            x.snapshot(0);
            Check.due("bytes", x.send(0, 0, 1), whole);
            x.cut(n);
            int status = x.receive(1);
            Check.due("BEGIN of " + n, status, n < BEGIN ? BAD : DONE);
            if (status == DONE) {
                Check.due("cut to " + n, x.step(1, 3), n < whole ? BAD : DONE);
                int most = n < BEGIN + WRITE ? 0 : n < BEGIN + WRITE + CLEAR ? 1 : n < whole ? 2 : 3;
                Check.due("those ahead of it, cut to " + n, x.look(1, 8), most);
            }
        }
        Volumes x = sent(9);
        x.cut(BEGIN + WRITE);
        x.receive(1);
        Check.due("one that is there", x.step(1, 1), MORE);
        Check.due("one that is not", x.step(1, 1), BAD);
        Check.due("an empty STREAM", new Volumes().receive(0), BAD);
    }

    /** "Of another first byte than may be there (BEGIN at the beginning and there alone)." */
    private static void otherFirstBytes() {
        for (int kind : new int[] {0, 1, 2, 3, 4, 5, 129, 255}) {
            Volumes x = sent(9);
            x.patch(0, kind);
            Check.putSum(x, 0, kind == 2 ? 11 : kind == 3 || kind == 4 ? 5 : 17);
            Check.due("at the beginning " + kind, x.receive(1), kind == 1 ? DONE : BAD);
            Volumes y = sent(9, 10);
            y.patch(BEGIN, kind);
            Check.putSum(y, BEGIN, kind == 1 ? 17 : 11);
            y.receive(1);
            Check.due("behind BEGIN " + kind, y.step(1, 1), kind == 2 ? MORE : BAD);
        }
    }

    /** "With a PLACE above 511." */
    private static void placesAbove511() {
        for (int place : new int[] {511, 512, 513, 767, 1023, 32768, 65535}) {
            Volumes x = sent(9);
            Check.putWrite(x, BEGIN, place, 5);
            x.receive(1);
            Check.due("WRITE " + place, x.step(1, 1), place == 511 ? MORE : BAD);
            Volumes y = received(9);
            y.snapshot(0);
            y.write(0, 9, 4);
            y.snapshot(0);
            y.send(0, 0, 2);
            Check.putClear(y, BEGIN, place, 1);
            y.receive(1);
            Check.due("CLEAR " + place, y.step(1, 1), place == 511 ? MORE : BAD);
        }
    }

    /** "A CLEAR of none or of PLACES above 511." */
    private static void clearsOfNoneOrAbove511() {
        int[][] clears = {
            {0, 0, BAD}, {511, 0, BAD}, {0, 1, MORE}, {0, 512, MORE}, {0, 513, BAD}, {1, 511, MORE}, {1, 512, BAD},
            {510, 2, MORE}, {510, 3, BAD}, {511, 1, MORE}, {511, 2, BAD}, {256, 257, BAD}, {1, 65535, BAD},
            {511, 65535, BAD}, {5, 65532, BAD}, {512, 0, BAD},
        };
        for (int[] clear : clears) {
            Volumes x = sent(9);
            Check.putClear(x, BEGIN, clear[0], clear[1]);
            x.receive(1);
            Check.due("a CLEAR of " + clear[1] + " from " + clear[0], x.step(1, 1), clear[2]);
        }
    }

    /** "A wrong SUM." */
    private static void wrongSums() {
        int[] ends = {BEGIN, BEGIN + WRITE, BEGIN + WRITE + CLEAR, BEGIN + WRITE + CLEAR + END};
        for (int record = 0; record < 4; record++) {
            for (int i = 1; i <= 8; i++) {
                for (int change : new int[] {1, 128}) {
                    Volumes x = received(9, 300);
                    x.write(0, 9, 5);
                    x.clear(0, 300);
                    x.snapshot(0);
                    x.send(0, 0, 1);
                    int at = ends[record] - i;
                    x.patch(at, x.stream(at) ^ change);
                    String what = "byte " + (8 - i) + " of the SUM of RECORD " + record;
                    Check.due(what, record == 0 ? x.receive(1) : x.receive(1) + x.step(1, 3), BAD);
                    Check.due(what + ": those ahead of it", x.look(1, 8), record == 0 ? 3 : record - 1);
                }
            }
        }
        Volumes x = sent(9);
        int b = (int) Check.number(x, BEGIN + 11, 4);
        int a = (int) Check.number(x, BEGIN + 15, 4);
        Check.putNumber(x, BEGIN + 11, 4, a);
        Check.putNumber(x, BEGIN + 15, 4, b);
        x.receive(1);
        Check.due("A, then B", x.step(1, 1), BAD);
    }

    /** "An END that tells another number." */
    private static void endsOfAnotherNumber() {
        long[] numbers = {0, 1, 2, 3, 4, 5, 3 + 256, 3 + 65536, 3 + (1 << 24), -1, -3};
        for (long n : numbers) {
            Volumes x = sent(9, 10);
            Check.putEnd(x, BEGIN + 2 * WRITE, n);
            x.receive(1);
            Check.due("END of " + n + " behind three", x.step(1, 3), n == 3 ? DONE : BAD);
        }
    }

    /** "Or has bytes behind it." */
    private static void bytesBehindEnd() {
        for (int behind = 0; behind <= 6 + END; behind++) {
            Volumes x = sent(9, 10);
            Check.putEnd(x, BEGIN + WRITE, 2);
            x.cut(BEGIN + WRITE + END + behind);
            x.receive(1);
            Check.due("END with " + behind + " behind it", x.step(1, 2), behind == 0 ? DONE : BAD);
        }
    }

    /** "BASE: there is a base's MARK that is not 0 and the latest SNAPSHOT has another MARK, or there is no SNAPSHOT .." */
    private static void base() {
        Volumes x = sent(9);
        Check.putBegin(x, 1, 7);
        Check.due("a base, no SNAPSHOT", x.receive(1), BASE);
        Check.putBegin(x, -1, 7);
        Check.due("another base, no SNAPSHOT", x.receive(1), BASE);
        Check.putBegin(x, 0, 1);
        Check.due("no base, no SNAPSHOT", x.receive(1), DONE);
        x.step(1, 2);
        Check.putBegin(x, 0, 7);
        Check.due("no base, a SNAPSHOT", x.receive(1), BASE);
        for (long mark : new long[] {2, 257, 1L << 32 | 1, 1L << 56 | 1, -1, Long.MIN_VALUE + 1}) {
            Check.putBegin(x, mark, 7);
            Check.due("the latest has another MARK than " + mark, x.receive(1), BASE);
        }
        x.snapshot(1);
        Check.putBegin(x, 1, 7);
        Check.due("an earlier one has it", x.receive(1), BASE);
        Check.putBegin(x, 2, 7);
        Check.due("the latest has it", x.receive(1), DONE);
    }

    /** ".. or it is 0 and there is a SNAPSHOT": also one that has the MARK 0. */
    private static void baseOfMarkZero() {
        Volumes x = sent(9);
        Check.putBegin(x, 0, 0);
        Check.due("a target of MARK 0", x.receive(1), DONE);
        x.step(1, 2);
        Check.due("the SNAPSHOT's MARK", x.snap(1, 0, 0), 0);
        Check.due("0, and the latest has 0", x.receive(1), BASE);
        Check.putBegin(x, 0, 7);
        Check.due("also for another target", x.receive(1), BASE);
        x.send(1, NONE, 0);
        Check.due("it is sent with MARK 0", Check.number(x, 9, 8), 0);
    }

    /** "DIRTY: the LIVE TREE's POINTER is not that of the latest SNAPSHOT (the same block, or both HOLES, and the same BIRTH) .." */
    private static void dirty() {
        Volumes x = received(9, 10);
        beginAndEnd(x, 1, 7);
        x.write(1, 9, 10);
        Check.due("another block, with the same longs", x.receive(1), DIRTY);
        x.rollback(1);
        x.clear(1, 9);
        Check.due("another block by clear", x.receive(1), DIRTY);
        x.clear(1, 10);
        Check.due("a HOLE, and a block", x.receive(1), DIRTY);
        x.rollback(1);
        x.clear(1, 300);
        Check.due("the same after nothing was done", x.receive(1), DONE);

        Volumes y = received();
        beginAndEnd(y, 1, 7);
        y.write(1, 9, 9);
        Check.due("a block, and a HOLE", y.receive(1), DIRTY);
        y.clear(1, 9);
        Check.due("both HOLES, another BIRTH", y.receive(1), DIRTY);
        y.rollback(1);
        Check.due("both HOLES, the same BIRTH", y.receive(1), DONE);

        Volumes z = sent(9);
        z.write(1, 9, 9);
        Check.due("without a SNAPSHOT, a block", z.receive(1), DIRTY);
        z.clear(1, 9);
        Check.due("without a SNAPSHOT, a HOLE of BIRTH 1", z.receive(1), DONE);
        Check.due("BIRTH 1", z.look(1, 6), 1);
    }

    /** "HAVE: a SNAPSHOT has the target's MARK." */
    private static void have() {
        Volumes x = sent(9);
        for (int k = 0; k < 3; k++) {
            x.snapshot(1);
        }
        for (long mark : new long[] {2, 3, 4}) {
            Check.putBegin(x, 4, mark);
            Check.due("MARK " + mark, x.receive(1), HAVE);
        }
        for (long mark : new long[] {1, 5, 2L << 32, 258, -2}) {
            Check.putBegin(x, 4, mark);
            Check.due("MARK " + mark, x.receive(1), DONE);
            x.crash(1);
        }
        x.destroy(1, 1);
        Check.putBegin(x, 4, 3);
        Check.due("one that it had", x.receive(1), DONE);
    }

    /** "(The first of BASE, DIRTY, HAVE.)" BUSY and BAD are ahead of them. */
    private static void theFirstOfBaseDirtyHave() {
        for (int wrong = 0; wrong < 16; wrong++) {
            boolean bad = (wrong & 8) != 0;
            boolean base = (wrong & 4) != 0;
            boolean dirty = (wrong & 2) != 0;
            boolean have = (wrong & 1) != 0;
            Volumes x = received(9);
            Check.putBegin(x, base ? 5 : 1, have ? 1 : 6);
            if (bad) {
                x.patch(24, x.stream(24) + 1);
            }
            if (dirty) {
                x.write(1, 9, 9);
            }
            int due = bad ? BAD : base ? BASE : dirty ? DIRTY : have ? HAVE : DONE;
            String before = Check.whole(x);
            Check.due("BAD, BASE, DIRTY, HAVE: " + wrong, x.receive(1), due);
            if (due != DONE) {
                Check.due("it changes nothing: " + wrong, Check.whole(x), before);
                continue;
            }
            for (int n : new int[] {25, 24, 0}) {
                x.cut(n);
                Check.due("BUSY ahead of all, " + n, x.receive(1), TwinVolumes.BUSY);
            }
        }
    }

    /** "Then there is a HIDDEN TREE, at first as the LIVE one; the volume is BUSY." */
    private static void hiddenAsTheLiveOne() {
        Volumes x = received(9);
        beginAndEnd(x, 1, 7);
        Check.due("not BUSY", x.look(1, 4), 0);
        Check.due("none", x.look(1, 7), NONE);
        Check.due("its POINTERS", x.block(1, x.look(1, 5), 2), 2);
        x.receive(1);
        Check.due("BUSY", x.look(1, 4), 1);
        Check.due("as LIVE", x.look(1, 7), x.look(1, 5));
        Check.due("one POINTER more", x.block(1, x.look(1, 5), 2), 3);
        Check.due("nothing is copied yet", x.look(1, 1), 96);
        x.step(1, 1);
        Check.due("a SNAPSHOT of the same TREE", x.snap(1, 1, 2), x.snap(1, 0, 2));
        Check.due("and of the same BIRTH", x.snap(1, 1, 3), 1);
    }

    /** "Each WRITE is WRITTEN there, a CLEAR is CLEARED PLACE by PLACE." */
    private static void writtenAndClearedThere() {
        Volumes x = received(8, 9, 10, 11, 12);
        Check.putBegin(x, 1, 7);
        Check.putWrite(x, BEGIN, 12, 99);
        Check.putClear(x, BEGIN + WRITE, 9, 2);
        Check.putEnd(x, BEGIN + WRITE + CLEAR, 3);
        x.cut(BEGIN + WRITE + CLEAR + END);
        x.receive(1);
        x.step(1, 1);
        Check.due("another TREE", x.look(1, 7) != x.look(1, 5), true);
        Check.due("four blocks are new", x.look(1, 1), 92 - 4);
        x.step(1, 1);
        Check.due("two DATA blocks are the SNAPSHOT's still", x.look(1, 1), 92 - 4);
        for (int place = 8; place < 13; place++) {
            Check.due("LIVE stays " + place, x.read(1, NONE, place), place + 1);
        }
        Check.due("END", x.step(1, 1), DONE);
        long[] due = {9, 0, 0, 12, 99};
        for (int place = 8; place < 13; place++) {
            Check.due("then " + place, x.read(1, NONE, place), due[place - 8]);
            Check.due("SNAPSHOT 0 stays " + place, x.read(1, 0, place), place + 1);
        }
        int level1 = x.pointer(1, x.pointer(1, x.look(1, 5), 0, 0), 1, 0);
        Check.due("a HOLE of BIRTH G", x.pointer(1, level1, 1, 1), 2);
        Check.due("a HOLE beside is as before", x.pointer(1, level1, 7, 1), 0);
    }

    /** "FULL .. for one PLACE": of a CLEAR, each PLACE for itself; if the last one is FULL, all is. */
    private static void fullForOnePlaceOfAClear() {
        for (int blocks = 16; blocks <= 19; blocks++) {
            Volumes x = new Volumes();
            int[] places = {0, 8, 64};
            for (int place : places) {
                x.write(0, place, place + 1);
                x.write(0, place + 1, place + 2);
            }
            x.snapshot(0);
            x.send(0, NONE, 0);
            x.format(1, blocks);
            x.receive(1);
            Check.due("the SNAPSHOT", x.step(1, MAX), DONE);
            Check.due("FREE", x.look(1, 1), blocks - 12);
            // PLACE 0 wants three, PLACE 8 one, PLACE 64 two.
            Check.putBegin(x, 1, 7);
            Check.putClear(x, BEGIN, 0, 65);
            Check.putEnd(x, BEGIN + CLEAR, 2);
            x.cut(BEGIN + CLEAR + END);
            x.receive(1);
            Check.due("six wanted, FREE " + (blocks - 12), x.step(1, 1), blocks < 18 ? FULL : MORE);
        }
        Volumes x = received(0, 8, 64);
        x.format(1, 9 + 5);
        x.send(0, NONE, 0);
        x.receive(1);
        x.step(1, MAX);
        Check.putBegin(x, 1, 7);
        Check.putClear(x, BEGIN, 0, 65);
        x.receive(1);
        Check.due("six wanted, five FREE", x.step(1, 1), FULL);
        Check.due("all FREE again", x.look(1, 1), 5);
        Check.due("PLACES 0 and 8 are as they were", x.read(1, NONE, 0) + x.read(1, NONE, 8), 10);
    }

    /** "END: the HIDDEN TREE becomes the LIVE one, a SNAPSHOT of it is made, with the target's MARK and GENERATION G, then G is one more .." */
    private static void endMakesTheSnapshot() {
        Volumes x = received(9);
        for (int k = 0; k < 3; k++) {
            x.snapshot(1);
            x.destroy(1, 1);
        }
        x.write(0, 9, 5);
        x.snapshot(0);
        x.send(0, 0, 1);
        int next = x.sent(4);
        Check.due("its MARK", Check.number(x, 9, 8), next - 1);
        x.receive(1);
        x.step(1, 1);
        int hidden = x.look(1, 7);
        Check.due("G", x.look(1, 2), 5);
        Check.due("no SNAPSHOT yet", x.look(1, 3), 1);
        Check.due("END", x.step(1, 1), DONE);
        Check.due("LIVE", x.look(1, 5), hidden);
        Check.due("its BIRTH", x.look(1, 6), 5);
        Check.due("SNAPSHOTS", x.look(1, 3), 2);
        long[] due = {next - 1, 5, hidden, 5};
        for (int what = 0; what < 4; what++) {
            Check.due("snap " + what, x.snap(1, 1, what), due[what]);
        }
        Check.due("G is one more", x.look(1, 2), 6);
        Check.due("no HIDDEN TREE", x.look(1, 7), NONE);
        Check.due("not BUSY", x.look(1, 4), 0);
        Check.due("two POINTERS", x.block(1, hidden, 2), 2);
        Check.due("the next MARK stays", x.sent(4), next);
        x.write(1, 9, 6);
        Check.due("the SNAPSHOT is not written any more", x.read(1, 1, 9), 5);
    }

    private static void endsIt(String what, Volumes x, int status) {
        String before = withoutReceived(x);
        Check.due(what + ": receive", x.receive(1), DONE);
        Check.due(what, x.step(1, MAX), status);
        Check.due(what + ": all else is as it was", withoutReceived(x), before);
        Check.thrown(what + ": not BUSY", Check.STATE, () -> x.step(1, 1));
        Check.due(what + ": from the beginning", x.receive(1), DONE);
    }

    private static String withoutReceived(Volumes x) {
        String[] parts = Check.all(x, 1).split(" ");
        parts[8] = "-";
        return String.join(" ", parts) + Check.all(x, 0) + Check.all(x);
    }

    /** "A BAD RECORD .. end it: there is no HIDDEN TREE, the volume is not BUSY, all else is as it was ahead of it." */
    private static void badEndsIt() {
        for (int record = 1; record <= 3; record++) {
            Volumes x = received(0, 9, 300);
            x.write(0, 9, 5);
            x.write(0, 77, 5);
            x.clear(0, 300);
            x.snapshot(0);
            x.send(0, 0, 1);
            int at = BEGIN + record * WRITE - 1;
            x.patch(at, x.stream(at) + 1);
            endsIt("a BAD RECORD " + record, x, BAD);
        }
    }

    /** "One that is FULL." */
    private static void fullEndsIt() {
        Volumes x = received(0, 9, 300);
        x.format(1, 15);
        x.send(0, NONE, 0);
        x.receive(1);
        x.step(1, MAX);
        x.write(0, 9, 5);
        x.write(0, 77, 5);
        x.snapshot(0);
        x.send(0, 0, 1);
        endsIt("a WRITE that is FULL", x, FULL);
        Check.putClear(x, BEGIN + WRITE, 0, 512);
        x.crash(1);
        endsIt("a CLEAR that is FULL", x, FULL);
    }

    /** "And an END when there are 20 SNAPSHOTS (FULL, too)." */
    private static void endWithTwentySnapshots() {
        for (int snapshots = 19; snapshots <= 20; snapshots++) {
            Volumes x = received(9);
            for (int k = 1; k < snapshots; k++) {
                x.snapshot(1);
            }
            x.write(0, 9, 5);
            x.snapshot(0);
            x.send(0, 0, 1);
            Check.putBegin(x, x.snap(1, snapshots - 1, 0), 99);
            if (snapshots == 20) {
                x.receive(1);
                Check.due("the RECORD ahead of END", x.step(1, 1), MORE);
                Check.due("END", x.step(1, 1), FULL);
                endsIt("an END with 20", x, FULL);
                x.crash(1);
                x.patch(x.sent(3) - 1, 0);
                endsIt("a BAD END with 20", x, BAD);
                x.crash(1);
                Check.putEnd(x, x.sent(3) - END, 4);
                endsIt("an END of another number with 20", x, BAD);
            } else {
                x.receive(1);
                Check.due("the 20th", x.step(1, 2), DONE);
                Check.due("there are 20", x.look(1, 3), 20);
                Check.due("its MARK", x.snap(1, 19, 0), 99);
            }
        }
    }

    /** "All memory is the volumes' own." */
    private static void memoryIsTheVolumesOwn() {
        TwinVolumes x = new TwinVolumes();
        TwinVolumes y = new TwinVolumes();
        x.write(0, 5, 5);
        x.snapshot(0);
        x.send(0, NONE, 0);
        Check.due("another object's volume", y.look(0, 1), 100);
        Check.due("another object's STREAM", y.stream(0), NONE);
        Check.due("another object's MARKS", y.sent(4), 1);
        Check.due("volume 1", x.look(1, 1), 100);
        y.format(0, 4);
        Check.due("the first object's volume", x.look(0, 0), 100);
        Check.due("its PLACE", x.read(0, 0, 5), 5);
        x.format(0, 4);
        Check.due("the STREAM has its own bytes", x.receive(1), DONE);
        Check.due("also of a SNAPSHOT that is gone", x.step(1, 2), DONE);
        Check.due("received", x.read(1, 0, 5), 5);
    }
}
