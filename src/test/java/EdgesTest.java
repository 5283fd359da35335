/**
 * The edges that the promises name, promise by promise: above each method stands the sentence that it is of. What
 * throws is RefusedTest's.
 */
public final class EdgesTest {
    private static final int NONE = TwinVolumes.NONE;
    private static final int DONE = TwinVolumes.DONE;
    private static final int BAD = TwinVolumes.BAD;
    private static final int FULL = TwinVolumes.FULL;
    private static final int BUSY = TwinVolumes.BUSY;
    private static final int MORE = TwinVolumes.MORE;
    private static final int MAX = Integer.MAX_VALUE;
    private static final int MIN = Integer.MIN_VALUE;

    public static void main(String[] args) {
        newIsAsFormatted();
        newStreamIsEmpty();
        formatOfFourAndSixHundred();
        formatOfABusyVolume();
        busyIsAheadOfFull();
        readWithNone();
        snapshotTwenty();
        destroyEachOfTwenty();
        rollbackToTheLatest();
        sendWithEachBase();
        receiveAnswers();
        stepsOfN();
        stepsThatEndIt();
        crashOfAll();
        streamBytes();
        patchLowestByte();
        cutToEachLength();
        snapNone();
        blockNone();
        pointerNone();
        dataZero();
        lookNone();
        lookReceived();
        sentNone();
        questionsChangeNothing();
        Check.end("EdgesTest");
    }

    /** Volume 0 has two SNAPSHOTS, the STREAM is the first one: three WRITES. */
    private static Volumes used() {
        Volumes x = new Volumes();
        x.write(0, 1, 11);
        x.write(0, 70, 12);
        x.write(0, 300, 13);
        x.snapshot(0);
        x.write(0, 70, 22);
        x.snapshot(0);
        x.send(0, NONE, 0);
        return x;
    }

    /** Promise 1: "Both volumes as by format(.., 100)." */
    private static void newIsAsFormatted() {
        Volumes x = new Volumes();
        Volumes y = new Volumes();
        y.format(0, 100);
        y.format(1, 100);
        Check.due("P1 new, and formatted", Check.whole(x), Check.whole(y));
        for (int v = 0; v < 2; v++) {
            Check.due("P1 blocks", x.look(v, 0), 100);
            Check.due("P1 the last one is there", x.block(v, 99, 2), 0);
            Check.due("P1 none behind it", x.block(v, 100, 2), NONE);
        }
    }

    /** Promise 1: "The STREAM is empty, nothing was sent, the next MARK is 1." */
    private static void newStreamIsEmpty() {
        Volumes x = new Volumes();
        Check.due("P1 no byte", x.stream(0), NONE);
        for (int what = 0; what < 4; what++) {
            Check.due("P1 nothing was sent: " + what, x.sent(what), 0);
        }
        Check.due("P1 the next MARK", x.sent(4), 1);
        Check.due("P1 nothing to receive", x.receive(0), BAD);
        x.snapshot(1);
        Check.due("P1 its MARK", x.snap(1, 0, 0), 1);
    }

    /** Promise 2: "blocks is not 4 to 600"; "A volume anew, with so many blocks, without SNAPSHOTS"; "STREAM and MARKS stay". */
    private static void formatOfFourAndSixHundred() {
        for (int blocks : new int[] {4, 600}) {
            Volumes x = used();
            String stream = Check.all(x);
            String other = Check.all(x, 1);
            x.format(0, blocks);
            int[] due = {blocks, blocks, 1, 0, 0, NONE, 0, NONE, 0};
            for (int what = 0; what < due.length; what++) {
                Check.due("P2 look " + what, x.look(0, what), due[what]);
            }
            Check.due("P2 no SNAPSHOT", x.snap(0, 0, 0), NONE);
            Check.due("P2 the STREAM and what is told of it", Check.all(x), stream);
            Check.due("P2 the other volume", Check.all(x, 1), other);
            Check.due("P2 the next MARK", x.sent(4), 3);
            Check.due("P2 the STREAM is to be received", x.receive(1) + x.step(1, MAX), DONE);
        }
    }

    /** Promise 2: "not BUSY." */
    private static void formatOfABusyVolume() {
        Volumes x = used();
        x.receive(1);
        x.step(1, 2);
        x.format(0, 30);
        Check.due("P2 the other one is BUSY still", x.look(1, 4), 1);
        Check.due("P2 and has its HIDDEN TREE", x.look(1, 7), 0);
        x.format(1, 30);
        Check.due("P2 not BUSY", x.look(1, 4), 0);
        Check.due("P2 no HIDDEN TREE", x.look(1, 7), NONE);
        Check.due("P2 all FREE", x.look(1, 1), 30);
        Check.due("P2 no receiving is under way", x.crash(1), false);
        Check.due("P2 it is written", x.write(1, 0, 1), DONE);
    }

    /** Promises 3 and 4: "BUSY (nothing is done then; ahead of FULL)." */
    private static void busyIsAheadOfFull() {
        Volumes x = used();
        x.format(1, 7);
        x.write(1, 1, 1);
        x.snapshot(1);
        Check.due("P3 FULL", x.write(1, 1, 2), FULL);
        Check.putBegin(x, 3, 9);
        x.receive(1);
        String before = Check.whole(x);
        Check.due("P3 BUSY", x.write(1, 1, 2), BUSY);
        Check.due("P4 BUSY", x.clear(1, 1), BUSY);
        Check.due("P4 BUSY, of a HOLE", x.clear(1, 2), BUSY);
        Check.due("P3 P4 nothing is done", Check.whole(x), before);
        Check.due("P3 not of the other volume", x.write(0, 1, 2), DONE);
        Check.due("P4 not of the other volume", x.clear(0, 1), DONE);
        x.crash(1);
        Check.due("P3 FULL again", x.write(1, 1, 2), FULL);
        Check.due("P4 DONE again", x.clear(1, 1), DONE);
    }

    /** Promise 5: "What a PLACE of SNAPSHOT k (or, with NONE, of the LIVE TREE) has." */
    private static void readWithNone() {
        Volumes x = used();
        x.write(0, 70, 32);
        Check.due("P5 SNAPSHOT 0", x.read(0, 0, 70), 12);
        Check.due("P5 SNAPSHOT 1, the last one", x.read(0, 1, 70), 22);
        Check.due("P5 NONE", x.read(0, NONE, 70), 32);
        Check.due("P5 NONE without SNAPSHOTS", x.read(1, NONE, 70), 0);
        x.receive(1);
        x.step(1, 3);
        Check.due("P5 BUSY: LIVE, not HIDDEN", x.read(1, NONE, 70), 0);
    }

    /** Promise 6: "A SNAPSHOT is made of the LIVE TREE, with the next MARK and GENERATION G; then G is one more: its number." */
    private static void snapshotTwenty() {
        Volumes x = new Volumes();
        x.snapshot(1);
        x.write(0, 9, 9);
        for (int k = 0; k < 20; k++) {
            Check.due("P6 its number", x.snapshot(0), k);
            long[] due = {k + 2, k + 1, 0, 1};
            for (int what = 0; what < 4; what++) {
                Check.due("P6 snap " + what + " of " + k, x.snap(0, k, what), due[what]);
            }
            Check.due("P6 G is one more", x.look(0, 2), k + 2);
            Check.due("P6 the other one's G", x.look(1, 2), 2);
            Check.due("P6 POINTERS", x.block(0, 0, 2), k + 2);
        }
        Check.thrown("P6 there are 20", Check.UNSUPPORTED, () -> x.snapshot(0));
        Check.due("P6 no MARK is lost by it", x.sent(4), 22);
        Check.due("P6 the other volume's", x.snapshot(1), 1);
        Check.due("P6 its MARK", x.snap(1, 1, 0), 22);
    }

    /** Promise 7: "SNAPSHOT k goes (those behind it have one number less): how many there are then." */
    private static void destroyEachOfTwenty() {
        for (int gone = 0; gone < 20; gone++) {
            Volumes x = new Volumes();
            x.write(0, 8, 8);
            for (int k = 0; k < 20; k++) {
                x.write(0, 3, 100 + k);
                x.snapshot(0);
            }
            Check.due("P7 FREE", x.look(0, 1), 100 - 6 - 19 * 4);
            Check.due("P7 how many", x.destroy(0, gone), 19);
            Check.due("P7 SNAPSHOTS", x.look(0, 3), 19);
            Check.due("P7 its blocks, but what LIVE has, are FREE", x.look(0, 1), 18 + (gone == 19 ? 0 : 4));
            for (int k = 0; k < 19; k++) {
                int was = k < gone ? k : k + 1;
                Check.due("P7 MARK of " + k, x.snap(0, k, 0), was + 1);
                Check.due("P7 GENERATION of " + k, x.snap(0, k, 1), was + 1);
                Check.due("P7 BIRTH of " + k, x.snap(0, k, 3), was + 1);
                Check.due("P7 what it has", x.read(0, k, 3), 100 + was);
                Check.due("P7 what all have", x.read(0, k, 8), 8);
                int b = (int) x.snap(0, k, 2);
                Check.due("P7 POINTERS to its block", x.block(0, b, 2), was == 19 ? 2 : 1);
            }
            Check.due("P7 none behind them", x.snap(0, 19, 2), NONE);
            Check.due("P7 LIVE stays", x.read(0, NONE, 3), 119);
            Check.due("P7 G stays", x.look(0, 2), 21);
        }
    }

    /** Promise 8: "The LIVE TREE becomes that of the latest SNAPSHOT: its number." */
    private static void rollbackToTheLatest() {
        Volumes x = used();
        String before = Check.whole(x);
        Check.due("P8 nothing to do", x.rollback(0), 1);
        Check.due("P8 nothing is changed", Check.whole(x), before);
        x.clear(0, 70);
        x.write(0, 500, 5);
        Check.due("P8 the latest", x.rollback(0), 1);
        Check.due("P8 all is as it was", Check.whole(x), before);
        x.destroy(0, 1);
        Check.due("P8 LIVE stays in destroy", x.read(0, NONE, 70), 22);
        Check.due("P8 the one ahead, the only one", x.rollback(0), 0);
        Check.due("P8 its PLACE", x.read(0, NONE, 70), 12);
        x.snapshot(1);
        x.write(1, 5, 5);
        Check.due("P8 to a HOLE", x.rollback(1), 0);
        Check.due("P8 a HOLE", x.look(1, 5), NONE);
        Check.due("P8 of its BIRTH", x.look(1, 6), 0);
        Check.due("P8 all FREE", x.look(1, 1), 100);
    }

    /** Promise 9: "SENDING SNAPSHOT target with the base (without, if that is NONE) .. base is neither NONE nor 0 .. target - 1." */
    private static void sendWithEachBase() {
        Volumes x = used();
        x.write(0, 2, 2);
        x.snapshot(0);
        int[][] sends = {{NONE, 0, 3}, {NONE, 1, 3}, {0, 1, 1}, {NONE, 2, 4}, {0, 2, 2}, {1, 2, 1}};
        for (int[] each : sends) {
            String what = "P9 send " + each[0] + ", " + each[1];
            int due = 25 + 19 * each[2] + 13;
            Check.due(what, x.send(0, each[0], each[1]), due);
            Check.due(what + ": bytes", x.sent(3), due);
            Check.due(what + ": none behind them", x.stream(due), NONE);
            Check.due(what + ": WRITES", x.sent(0), each[2]);
            Check.due(what + ": the base's MARK", Check.number(x, 1, 8), each[0] + 1);
            Check.due(what + ": the target's MARK", Check.number(x, 9, 8), each[1] + 1);
        }
        x.receive(1);
        Check.due("P9 a BUSY volume sends, too", busyVolumeSends(), 25 + 13);
    }

    private static int busyVolumeSends() {
        Volumes x = used();
        x.snapshot(1);
        Check.putBegin(x, 3, 9);
        x.receive(1);
        x.step(1, 1);
        return x.send(1, NONE, 0);
    }

    /** Promise 10: "DONE (it is BUSY then), BUSY (it was: nothing is done), BAD (the BEGIN)." */
    private static void receiveAnswers() {
        Volumes x = used();
        Check.due("P10 DONE", x.receive(1), DONE);
        Check.due("P10 BUSY then", x.look(1, 4), 1);
        x.step(1, 2);
        String before = Check.whole(x);
        Check.due("P10 BUSY", x.receive(1), BUSY);
        Check.due("P10 nothing is done", Check.whole(x), before);
        Check.due("P10 it goes on where it was", x.step(1, 2), DONE);
        Check.due("P10 the volume that has sent", x.receive(0), TwinVolumes.BASE);
        x.patch(0, 0);
        Check.due("P10 BAD", x.receive(1), BAD);
        Check.due("P10 not BUSY", x.look(1, 4), 0);
    }

    /** Promise 11: "The next n RECORDS are received: MORE; DONE, if END was among them." */
    private static void stepsOfN() {
        for (int n = 1; n <= 6; n++) {
            Volumes x = used();
            x.receive(1);
            Check.due("P11 step " + n, x.step(1, n), n < 4 ? MORE : DONE);
            Check.due("P11 received by " + n, x.look(1, 8), Math.min(n, 4));
            Check.due("P11 BUSY after " + n, x.look(1, 4), n < 4 ? 1 : 0);
            Check.due("P11 SNAPSHOTS after " + n, x.look(1, 3), n < 4 ? 0 : 1);
            if (n < 4) {
                Check.due("P11 the rest of " + n, x.step(1, 4 - n), DONE);
                Check.due("P11 all received", x.look(1, 8), 4);
            }
            Check.thrown("P11 over", Check.STATE, () -> x.step(1, 1));
        }
        Volumes x = used();
        x.receive(1);
        Check.due("P11 the greatest n", x.step(1, MAX), DONE);
    }

    /** Promise 11: "BAD or FULL, if one ended it." */
    private static void stepsThatEndIt() {
        for (int n = 1; n <= 4; n++) {
            Volumes x = used();
            x.patch(25 + 3 * 19 - 1, 0);
            x.receive(1);
            Check.due("P11 the third is BAD, step " + n, x.step(1, n), n < 3 ? MORE : BAD);
            Check.due("P11 received by " + n, x.look(1, 8), Math.min(n, 2));
            Volumes y = used();
            y.format(1, 9);
            y.receive(1);
            Check.due("P11 the third is FULL, step " + n, y.step(1, n), n < 3 ? MORE : FULL);
            Check.due("P11 received by " + n, y.look(1, 8), Math.min(n, 2));
            Check.due("P11 FREE", y.look(1, 1), n == 1 ? 5 : n == 2 ? 2 : 9);
        }
    }

    /** Promise 12: "A receiving under way is ended, as told: whether one was." */
    private static void crashOfAll() {
        Volumes x = used();
        String before = Check.whole(x);
        Check.due("P12 none was", x.crash(1), false);
        Check.due("P12 none was in 0", x.crash(0), false);
        Check.due("P12 nothing is changed", Check.whole(x), before);
        x.receive(1);
        Check.due("P12 one was, without RECORDS", x.crash(1), true);
        Check.due("P12 all is as it was", Check.whole(x), before);
        x.receive(1);
        x.step(1, 3);
        Check.due("P12 one was", x.crash(1), true);
        Check.due("P12 not twice", x.crash(1), false);
        Check.due("P12 all FREE", x.look(1, 1), 100);
        Check.due("P12 no HIDDEN TREE", x.look(1, 7), NONE);
        Check.thrown("P12 not BUSY", Check.STATE, () -> x.step(1, 1));
        x.receive(1);
        x.step(1, MAX);
        Check.due("P12 it is over: none was", x.crash(1), false);
        Check.due("P12 the SNAPSHOT stays", x.read(1, 0, 300), 13);
    }

    /** Promise 13: "Byte i of the STREAM (0 to 255); NONE if there is none such." */
    private static void streamBytes() {
        Volumes x = used();
        int length = x.sent(3);
        Check.due("P13 the first", x.stream(0), 1);
        Check.due("P13 the last", x.stream(length - 1), 1 + 4 + 4);
        for (int i : new int[] {-1, length, length + 1, MIN, MAX}) {
            Check.due("P13 byte " + i, x.stream(i), NONE);
        }
        for (int v = 0; v < 256; v++) {
            x.patch(length - 1, v);
            Check.due("P13 0 to 255", x.stream(length - 1), v);
        }
    }

    /** Promise 14: "Byte i of the STREAM becomes the lowest byte of v: what it was." */
    private static void patchLowestByte() {
        Volumes x = used();
        int last = x.sent(3) - 1;
        int[] values = {-1, 256, 511, 0x7FFFFF80, MIN, 127, 128};
        int[] due = {255, 0, 255, 128, 0, 127, 128};
        for (int i : new int[] {0, last}) {
            int was = x.stream(i);
            int beside = x.stream(i == 0 ? 1 : last - 1);
            for (int k = 0; k < values.length; k++) {
                Check.due("P14 what it was", x.patch(i, values[k]), was);
                Check.due("P14 the lowest byte of " + values[k], x.stream(i), due[k]);
                was = due[k];
            }
            Check.due("P14 the byte beside it stays", x.stream(i == 0 ? 1 : last - 1), beside);
        }
        Check.due("P14 as long as before", x.sent(3), last + 1);
    }

    /** Promise 15: "The STREAM has its first n bytes alone." */
    private static void cutToEachLength() {
        for (int n : new int[] {0, 1, 24, 25, 44, 94, 95}) {
            Volumes x = used();
            x.cut(n);
            Check.due("P15 bytes", x.sent(3), n);
            Check.due("P15 the last of " + n, x.stream(n - 1) == NONE, n == 0);
            Check.due("P15 none behind " + n, x.stream(n), NONE);
            Check.due("P15 the first ones stay", n == 0 ? 1 : x.stream(0), 1);
            Check.thrown("P15 longer than " + n, Check.ARGUMENT, () -> x.cut(n + 1));
            x.cut(n);
            Check.due("P15 as many again", x.sent(3), n);
        }
    }

    /** Promise 16: "NONE if there is no such volume or SNAPSHOT, or for another what." */
    private static void snapNone() {
        Volumes x = used();
        for (int what = -1; what <= 4; what++) {
            boolean is = what >= 0 && what <= 3;
            Check.due("P16 the last SNAPSHOT, what " + what, x.snap(0, 1, what) != NONE, is);
            for (int k : new int[] {-2, NONE, 2, 20, MIN, MAX}) {
                Check.due("P16 SNAPSHOT " + k + ", what " + what, x.snap(0, k, what), NONE);
            }
            Check.due("P16 none in volume 1, what " + what, x.snap(1, 0, what), NONE);
            Check.due("P16 volume -1, what " + what, x.snap(-1, 0, what), NONE);
            Check.due("P16 volume 2, what " + what, x.snap(2, 0, what), NONE);
        }
        x.destroy(0, 0);
        Check.due("P16 none any more", x.snap(0, 1, 0), NONE);
        x.format(0, 10);
        Check.due("P16 none in a new volume", x.snap(0, 0, 0), NONE);
    }

    /** Promise 17: "0 of a FREE one"; "NONE if there is no such volume or block, or for another what." */
    private static void blockNone() {
        Volumes x = used();
        int free = 100 - x.look(0, 1);
        for (int what = -1; what <= 3; what++) {
            boolean is = what >= 0 && what <= 2;
            Check.due("P17 a block, what " + what, x.block(0, 0, what) != NONE, is);
            Check.due("P17 FREE, what " + what, x.block(0, free, what), what == 2 ? 0 : NONE);
            Check.due("P17 the last, what " + what, x.block(0, 99, what), what == 2 ? 0 : NONE);
            for (int b : new int[] {-1, 100, 600, MIN, MAX}) {
                Check.due("P17 block " + b + ", what " + what, x.block(0, b, what), NONE);
            }
            Check.due("P17 volume -1, what " + what, x.block(-1, 0, what), NONE);
            Check.due("P17 volume 2, what " + what, x.block(2, 0, what), NONE);
        }
    }

    /** Promise 18: "NONE if there is none such, or for another what." */
    private static void pointerNone() {
        Volumes x = new Volumes();
        x.write(0, 511, 5);
        x.write(0, 0, 5);
        x.clear(0, 511);
        for (int what = -1; what <= 2; what++) {
            boolean is = what == 0 || what == 1;
            Check.due("P18 what " + what, x.pointer(0, 0, 0, what), is ? 4 - 3 * what : NONE);
            Check.due("P18 a HOLE, what " + what, x.pointer(0, 0, 7, what), what == 1 ? 1 : NONE);
            Check.due("P18 POINTER -1, what " + what, x.pointer(0, 0, -1, what), NONE);
            Check.due("P18 POINTER 8, what " + what, x.pointer(0, 0, 8, what), NONE);
            Check.due("P18 DATA, what " + what, x.pointer(0, 6, 0, what), NONE);
            Check.due("P18 FREE, once INNER, what " + what, x.pointer(0, 1, 0, what), NONE);
            Check.due("P18 block -1, what " + what, x.pointer(0, -1, 0, what), NONE);
            Check.due("P18 block 100, what " + what, x.pointer(0, 100, 0, what), NONE);
            Check.due("P18 volume -1, what " + what, x.pointer(-1, 0, 0, what), NONE);
            Check.due("P18 volume 2, what " + what, x.pointer(2, 0, 0, what), NONE);
        }
    }

    /** Promise 19: "The long of a DATA block; 0 if it is none, or there is none such." */
    private static void dataZero() {
        Volumes x = used();
        Check.due("P19 DATA", x.data(0, 3), 11);
        for (int b : new int[] {0, 1, 2, -1, 50, 99, 100, MIN, MAX}) {
            Check.due("P19 block " + b, x.data(0, b), 0);
        }
        Check.due("P19 volume -1", x.data(-1, 3), 0);
        Check.due("P19 volume 2", x.data(2, 3), 0);
        Check.due("P19 volume 1 has none", x.data(1, 3), 0);
        x.format(0, 20);
        Check.due("P19 FREE, once DATA", x.data(0, 3), 0);
    }

    /** Promise 20: "NONE if there is no such volume, or for another what." */
    private static void lookNone() {
        Volumes x = used();
        int[] due = {100, 86, 3, 2, 0, 10, 2, NONE, 0};
        for (int what = -1; what <= 9; what++) {
            boolean is = what >= 0 && what <= 8;
            Check.due("P20 look(0, " + what + ")", x.look(0, what), is ? due[what] : NONE);
            Check.due("P20 look(-1, " + what + ")", x.look(-1, what), NONE);
            Check.due("P20 look(2, " + what + ")", x.look(2, what), NONE);
        }
        Check.due("P20 the least what", x.look(0, MIN), NONE);
        Check.due("P20 the greatest what", x.look(0, MAX), NONE);
    }

    /** Promise 20: "RECORDS that were received behind BEGIN since the latest receive() that was DONE (END, too; one that is BAD or FULL was not; 0 without)." */
    private static void lookReceived() {
        Volumes x = used();
        Check.due("P20 0 without", x.look(1, 8), 0);
        x.receive(1);
        Check.due("P20 not BEGIN", x.look(1, 8), 0);
        for (int n = 1; n <= 4; n++) {
            x.step(1, 1);
            Check.due("P20 END, too: " + n, x.look(1, 8), n);
        }
        Check.due("P20 a receive() that is not DONE", x.receive(1), TwinVolumes.BASE);
        Check.due("P20 it stays", x.look(1, 8), 4);
        x.send(0, 0, 1);
        x.patch(25 + 18, 0);
        x.receive(1);
        Check.due("P20 from 0 on", x.look(1, 8), 0);
        Check.due("P20 BAD", x.step(1, 1), BAD);
        Check.due("P20 not a BAD one", x.look(1, 8), 0);
        Check.due("P20 of volume 0 none", x.look(0, 8), 0);
    }

    /** Promise 21: "Of the latest send() .. (0 without) .. NONE for another what." */
    private static void sentNone() {
        Volumes x = used();
        x.clear(0, 300);
        x.snapshot(0);
        x.send(0, 0, 2);
        int[] due = {1, 1, 4, 25 + 19 + 13 + 13, 4};
        for (int what = -1; what <= 5; what++) {
            boolean is = what >= 0 && what <= 4;
            Check.due("P21 sent(" + what + ")", x.sent(what), is ? due[what] : NONE);
        }
        Check.due("P21 the least what", x.sent(MIN), NONE);
        Check.due("P21 the greatest what", x.sent(MAX), NONE);
        Check.thrown("P21 a send that throws", Check.STATE, () -> x.send(0, 2, 2));
        x.format(0, 9);
        x.snapshot(1);
        for (int what = 0; what < 4; what++) {
            Check.due("P21 of the latest still: " + what, x.sent(what), due[what]);
        }
        Check.due("P21 the next MARK", x.sent(4), 5);
        x.send(1, NONE, 0);
        for (int what = 0; what < 3; what++) {
            Check.due("P21 of the latest alone: " + what, x.sent(what), 0);
        }
    }

    /** Promises 5, 13 and 16 to 21 only tell: asked twice, one object answers twice the same. */
    private static void questionsChangeNothing() {
        TwinVolumes x = new TwinVolumes();
        x.format(0, 8);
        x.format(1, 4);
        x.write(0, 5, 5);
        x.snapshot(0);
        x.clear(0, 5);
        x.send(0, NONE, 0);
        x.receive(1);
        x.step(1, 1);
        String first = questions(x);
        Check.due("P5, P13, P16 to P21 asked again", questions(x), first);
    }

    private static String questions(TwinVolumes x) {
        StringBuilder s = new StringBuilder();
        for (int i = -1; i <= 57; i++) {
            s.append(x.stream(i)).append(' ');
        }
        for (int what = -1; what <= 9; what++) {
            s.append(x.sent(what)).append(' ').append(x.look(0, what)).append(' ').append(x.look(1, what)).append(' ');
        }
        for (int what = 0; what < 4; what++) {
            s.append(x.snap(0, 0, what)).append(' ');
        }
        for (int b = 0; b < 9; b++) {
            for (int what = 0; what < 3; what++) {
                s.append(x.block(0, b, what)).append(' ');
            }
            s.append(x.data(0, b)).append(' ').append(x.pointer(0, b, 0, 0)).append(' ');
            s.append(x.pointer(1, b, 0, 1)).append(' ').append(x.data(1, b)).append(' ');
            s.append(x.read(0, b % 2 - 1, b)).append(' ').append(x.read(1, NONE, b)).append(' ');
        }
        return s.toString();
    }
}
