/** Promises 9, 13, 14, 15 and 21: send, stream, patch, cut, sent. */
public final class SendingTest {
    private static final int NONE = TwinVolumes.NONE;
    private static final int MAX = Integer.MAX_VALUE;
    private static final int MIN = Integer.MIN_VALUE;

    public static void main(String[] args) {
        wholeStream();
        sums();
        withBase();
        holes();
        emptySnapshots();
        largest();
        sendThrows();
        streamPatchCut();
        sent();
        Check.end("SendingTest");
    }

    private static void stream(String when, Volumes x, int... due) {
        for (int i = 0; i < due.length; i++) {
            Check.due(when + ": stream(" + i + ")", x.stream(i), due[i]);
        }
        Check.due(when + ": none behind it", x.stream(due.length), NONE);
    }

    private static void wholeStream() {
        Volumes x = new Volumes();
        x.write(0, 258, 0x0102030405060708L);
        x.snapshot(0);
        Check.due("P9 bytes", x.send(0, NONE, 0), 25 + 19 + 13);
        stream("P9", x,
                1, 0, 0, 0, 0, 0, 0, 0, 0, 0, 0, 0, 0, 0, 0, 0, 1, 0, 0, 0, 35, 0, 0, 0, 3,
                2, 1, 2, 1, 2, 3, 4, 5, 6, 7, 8, 0, 0, 0, 181, 0, 0, 0, 42,
                4, 0, 0, 0, 2, 0, 0, 0, 27, 0, 0, 0, 7);
        Check.due("P21 WRITES", x.sent(0), 1);
        Check.due("P21 CLEARS", x.sent(1), 0);
        Check.due("P21 SEEN", x.sent(2), 4);
        Check.due("P21 bytes", x.sent(3), 57);
        Check.due("P21 next MARK", x.sent(4), 2);
    }

    private static void sums() {
        Volumes x = new Volumes();
        x.write(0, 511, -1);
        x.snapshot(0);
        x.send(0, NONE, 0);
        long a = 1;
        long b = 0;
        for (int i = 25; i < 36; i++) {
            a += x.stream(i);
            b += a;
        }
        Check.due("P9 B", Check.number(x, 36, 4), b);
        Check.due("P9 A", Check.number(x, 40, 4), a);
        Check.due("P9 bytes above 127", x.stream(28), 255);
    }

    private static void withBase() {
        Volumes x = new Volumes();
        x.write(0, 0, 1);
        x.write(0, 100, 2);
        x.snapshot(1);
        x.snapshot(0);
        x.write(0, 100, 3);
        x.write(0, 300, 4);
        x.snapshot(0);
        x.write(0, 1, 5);
        x.snapshot(0);
        Check.due("P9 with base 0", x.send(0, 0, 1), 25 + 19 + 19 + 13);
        Check.due("P9 the base's MARK", Check.number(x, 1, 8), 2);
        Check.due("P9 the target's MARK", Check.number(x, 9, 8), 3);
        Check.due("P9 PLACE", Check.number(x, 26, 2), 100);
        Check.due("P9 long", Check.number(x, 28, 8), 3);
        Check.due("P9 the next PLACE", Check.number(x, 45, 2), 300);
        Check.due("P9 its long", Check.number(x, 47, 8), 4);
        Check.due("P9 RECORDS", Check.number(x, 64, 4), 3);
        Check.due("P9 SEEN: one of level 3, two each of 2, 1, 0", x.sent(2), 7);
        Check.due("P9 two of them are WRITES", x.sent(0), 2);
        Check.due("P9 over two", x.send(0, 0, 2), 25 + 3 * 19 + 13);
        Check.due("P9 in the order of PLACES", Check.number(x, 26, 2), 1);
        Check.due("P9 base 1", x.send(0, 1, 2), 25 + 19 + 13);
        Check.due("P9 its PLACE", Check.number(x, 26, 2), 1);
        Check.due("P9 of a neighbour nothing is told", x.sent(2), 4);
        x.destroy(0, 1);
        Check.due("P9 numbers are those of now", x.send(0, 0, 1), 25 + 3 * 19 + 13);
        Check.due("P9 target's MARK", Check.number(x, 9, 8), 4);
    }

    private static void holes() {
        Volumes x = new Volumes();
        int[] places = {0, 1, 64, 72, 256, 511};
        for (int p : places) {
            x.write(0, p, p + 1);
        }
        x.snapshot(0);
        x.clear(0, 1);
        x.clear(0, 72);
        x.clear(0, 256);
        x.snapshot(0);
        Check.due("P9 three CLEARS", x.send(0, 0, 1), 25 + 3 * 13 + 13);
        Check.due("P9 a CLEAR", x.stream(25), 3);
        Check.due("P9 PLACE of level 0", Check.number(x, 26, 2), 1);
        Check.due("P9 how many", Check.number(x, 28, 2), 1);
        Check.due("P9 its SUM: B", Check.number(x, 30, 4), 4 + 4 + 5 + 5 + 6);
        Check.due("P9 its SUM: A", Check.number(x, 34, 4), 6);
        Check.due("P9 PLACE of level 1", Check.number(x, 39, 2), 72);
        Check.due("P9 how many of level 1", Check.number(x, 41, 2), 8);
        Check.due("P9 PLACE of level 2", Check.number(x, 52, 2), 256);
        Check.due("P9 how many of level 2", Check.number(x, 54, 2), 64);
        Check.due("P9 END", Check.number(x, 64, 5), 4 * (1L << 32) + 4);
        Check.due("P21 WRITES", x.sent(0), 0);
        Check.due("P21 CLEARS", x.sent(1), 3);
        Check.due("P21 SEEN: HOLES are none", x.sent(2), 4);
        Check.due("P9 HOLES with a BIRTH are told without a base, too", x.send(0, NONE, 1), 25 + 3 * 19 + 3 * 13 + 13);
        x.write(0, 257, 9);
        x.snapshot(0);
        Check.due("P9 HOLES below keep their BIRTH", x.send(0, 1, 2), 25 + 19 + 13);
        Check.due("P9 and are told with an earlier base", x.send(0, 0, 2), 25 + 19 + (2 + 7 + 7) * 13 + 13);
        Check.due("P21 CLEARS", x.sent(1), 2 + 7 + 7);
    }

    private static void emptySnapshots() {
        Volumes x = new Volumes();
        x.snapshot(0);
        Check.due("P9 a HOLE with BIRTH 0", x.send(0, NONE, 0), 25 + 13);
        Check.due("P9 END alone", Check.number(x, 26, 4), 1);
        x.write(0, 9, 9);
        x.clear(0, 9);
        x.snapshot(0);
        Check.due("P9 a TREE that is a HOLE", x.send(0, 0, 1), 25 + 13 + 13);
        Check.due("P9 from PLACE 0 on", Check.number(x, 26, 2), 0);
        Check.due("P9 all PLACES", Check.number(x, 28, 2), 512);
        Check.due("P9 nothing SEEN", x.sent(2), 0);
        x.snapshot(0);
        Check.due("P9 nothing new", x.send(0, 1, 2), 25 + 13);
        x.write(0, 0, 0);
        x.snapshot(0);
        Check.due("P9 0 is a WRITE", x.send(0, 2, 3), 25 + 19 + 13);
    }

    /** As many PLACES as the promised 512 calls leave room for. */
    private static void largest() {
        Volumes x = new Volumes();
        x.format(0, 572);
        for (int p = 12; p < 512; p++) {
            Check.due("P3 " + p, x.write(0, p, -p), TwinVolumes.DONE);
        }
        x.snapshot(0);
        Check.due("P9 500 PLACES", x.send(0, NONE, 0), 25 + 500 * 19 + 13);
        x.format(1, 572);
        Check.due("P10 all", x.receive(1), TwinVolumes.DONE);
        Check.due("P11 all but END", x.step(1, 500), TwinVolumes.MORE);
        Check.due("P11 END", x.step(1, 1), TwinVolumes.DONE);
        Check.due("P3 572 blocks", x.look(0, 1), 0);
        Check.due("P3 572 blocks", x.look(1, 1), 0);
        Check.due("P21 500 WRITES", x.sent(0), 500);
        Check.due("P21 all SEEN", x.sent(2), 572);
        Check.due("P9 END's number", Check.number(x, 25 + 500 * 19 + 1, 4), 501);
        for (int p = 8; p < 512; p++) {
            Check.due("P11 PLACE " + p, x.read(1, 0, p), p < 12 ? 0 : -p);
        }
    }

    private static void sendThrows() {
        Volumes x = new Volumes();
        x.write(0, 1, 1);
        x.snapshot(0);
        x.snapshot(0);
        x.send(0, 0, 1);
        String before = Check.all(x);
        int[] wrongVolumes = {-1, 2, MAX, MIN};
        for (int volume : wrongVolumes) {
            Check.thrown("P9 volume " + volume, Check.ARGUMENT, () -> x.send(volume, 5, 5));
        }
        int[] wrongTargets = {NONE, -2, 2, 20, MAX, MIN};
        for (int target : wrongTargets) {
            Check.thrown("P9 target " + target + " ahead of the base", Check.MISSING, () -> x.send(0, MIN, target));
        }
        int[] wrongBases = {-2, 1, 2, MAX, MIN};
        for (int base : wrongBases) {
            Check.thrown("P9 base " + base, Check.STATE, () -> x.send(0, base, 1));
        }
        Check.thrown("P9 nothing is ahead of 0", Check.STATE, () -> x.send(0, 0, 0));
        Check.thrown("P9 volume 1 has none", Check.MISSING, () -> x.send(1, NONE, 0));
        Check.due("P9 throwing changes nothing", Check.all(x), before);
    }

    private static void streamPatchCut() {
        Volumes x = new Volumes();
        Check.thrown("P14 empty", Check.MISSING, () -> x.patch(0, 1));
        Check.thrown("P15 empty", Check.ARGUMENT, () -> x.cut(1));
        x.cut(0);
        x.snapshot(0);
        x.send(0, NONE, 0);
        int[] none = {-1, 38, 39, 20000, MAX, MIN};
        for (int i : none) {
            Check.due("P13 none such: " + i, x.stream(i), NONE);
            Check.thrown("P14 none such: " + i, Check.MISSING, () -> x.patch(i, 1));
        }
        Check.due("P14 what it was", x.patch(37, -1), 6);
        Check.due("P13 255", x.stream(37), 255);
        Check.due("P14 255", x.patch(37, 0x12345680), 255);
        Check.due("P13 lowest byte", x.stream(37), 128);
        Check.due("P14 first", x.patch(0, 256), 1);
        Check.due("P13 0", x.stream(0), 0);
        int[] tooFar = {-1, 39, MAX, MIN};
        for (int n : tooFar) {
            Check.thrown("P15 " + n, Check.ARGUMENT, () -> x.cut(n));
        }
        x.cut(38);
        Check.due("P15 all", x.sent(3), 38);
        x.cut(37);
        Check.due("P15 one less", x.stream(37), NONE);
        Check.due("P15 the last", x.stream(36), 0);
        Check.thrown("P14 behind the cut", Check.MISSING, () -> x.patch(37, 1));
        Check.thrown("P15 not longer again", Check.ARGUMENT, () -> x.cut(38));
        x.cut(0);
        Check.due("P15 none", x.stream(0), NONE);
        Check.due("P9 anew", x.send(0, NONE, 0), 38);
        Check.due("P13 anew", x.stream(0), 1);
    }

    private static void sent() {
        Volumes x = new Volumes();
        x.write(0, 1, 1);
        x.write(0, 2, 1);
        x.snapshot(0);
        x.clear(0, 1);
        x.snapshot(0);
        x.send(0, NONE, 1);
        Check.due("P21 WRITES", x.sent(0), 1);
        Check.due("P21 CLEARS", x.sent(1), 1);
        Check.due("P21 SEEN", x.sent(2), 4);
        Check.due("P21 bytes", x.sent(3), 25 + 13 + 19 + 13);
        Check.due("P21 next MARK", x.sent(4), 3);
        x.cut(10);
        x.format(0, 10);
        Check.due("P21 the STREAM's bytes are those of now", x.sent(3), 10);
        Check.due("P21 WRITES of the latest", x.sent(0), 1);
        x.snapshot(1);
        Check.due("P21 next MARK of now", x.sent(4), 4);
        int[] other = {-1, 5, MAX, MIN};
        for (int what : other) {
            Check.due("P21 what " + what, x.sent(what), NONE);
        }
        x.send(1, NONE, 0);
        for (int what = 0; what < 3; what++) {
            Check.due("P21 nothing but the latest: " + what, x.sent(what), 0);
        }
    }
}
