/** Promises 10, 11 and 12: receive, step, crash. */
public final class ReceivingTest {
    private static final int NONE = TwinVolumes.NONE;
    private static final int MAX = Integer.MAX_VALUE;
    private static final int MIN = Integer.MIN_VALUE;
    private static final int BEGIN = 25;

    public static void main(String[] args) {
        receive();
        receiveBadBegin();
        receiveBase();
        receiveDirty();
        receiveHave();
        receiveThrows();
        step();
        stepBad();
        stepBadEnd();
        stepFull();
        stepFullOfSnapshots();
        blocksAreFreeAfterEachRecord();
        streamOfNow();
        crash();
        bothAtOnce();
        Check.end("ReceivingTest");
    }

    /** Volume 0 has PLACES 1, 2 and 300 in SNAPSHOT 0; in 1, PLACE 2 has another long, and 300 is cleared. */
    private static Volumes twoSnapshots() {
        Volumes x = new Volumes();
        x.write(0, 1, 11);
        x.write(0, 2, 12);
        x.write(0, 300, 13);
        x.snapshot(0);
        x.write(0, 2, 22);
        x.clear(0, 300);
        x.snapshot(0);
        x.send(0, NONE, 0);
        return x;
    }

    private static void take(Volumes x, int volume) {
        Check.due("receive", x.receive(volume), TwinVolumes.DONE);
        Check.due("step", x.step(volume, MAX), TwinVolumes.DONE);
    }

    private static void receive() {
        Volumes x = twoSnapshots();
        x.write(1, 5, 5);
        x.clear(1, 5);
        String stream = Check.all(x);
        Check.due("P10 a LIVE TREE that is a HOLE with a BIRTH", x.receive(1), TwinVolumes.DONE);
        Check.due("P10 BUSY then", x.look(1, 4), 1);
        Check.due("P10 none received", x.look(1, 8), 0);
        Check.due("P10 HIDDEN is a HOLE", x.look(1, 7), NONE);
        x.step(1, 1);
        String before = Check.all(x, 1);
        Check.due("P10 BUSY", x.receive(1), TwinVolumes.BUSY);
        Check.due("P10 nothing is done", Check.all(x, 1), before);
        x.cut(3);
        Check.due("P10 BUSY ahead of BAD", x.receive(1), TwinVolumes.BUSY);
        x.crash(1);
        x.send(0, NONE, 0);
        Check.due("P10 the STREAM stays", Check.all(x), stream);
        take(x, 1);
        x.send(0, 0, 1);
        Check.due("P10 with a base", x.receive(1), TwinVolumes.DONE);
        Check.due("P10 HIDDEN as LIVE", x.look(1, 7), x.look(1, 5));
        Check.due("P17 LIVE, SNAPSHOT and HIDDEN tell it", x.block(1, x.look(1, 5), 2), 3);
    }

    private static void receiveBadBegin() {
        Volumes x = twoSnapshots();
        String before = Check.all(x, 1);
        for (int i = 0; i < BEGIN; i++) {
            int was = x.patch(i, x.stream(i) + 1);
            Check.due("P10 another byte " + i, x.receive(1), TwinVolumes.BAD);
            x.patch(i, was);
        }
        for (int kind = 0; kind < 256; kind++) {
            Volumes y = twoSnapshots();
            y.patch(0, kind);
            Check.putSum(y, 0, 17);
            Check.due("P10 first byte " + kind, y.receive(1), kind == 1 ? TwinVolumes.DONE : TwinVolumes.BAD);
        }
        x.patch(0, 2);
        Check.putSum(x, 0, 11);
        Check.due("P10 a WRITE at the beginning", x.receive(1), TwinVolumes.BAD);
        x.send(0, NONE, 0);
        x.cut(BEGIN);
        Check.due("P10 BEGIN alone", x.receive(1), TwinVolumes.DONE);
        x.crash(1);
        for (int n = BEGIN - 1; n >= 0; n--) {
            x.cut(n);
            Check.due("P10 bytes of BEGIN: " + n, x.receive(1), TwinVolumes.BAD);
        }
        x.send(0, NONE, 0);
        Check.putNumber(x, 9, 8, 253);
        Check.putSum(x, 0, 17);
        Check.due("P14 the lowest byte of A", x.stream(24), 255);
        x.cut(24);
        Check.due("P10 the last byte is not there, whatever it was", x.receive(1), TwinVolumes.BAD);
        Check.due("P10 nothing is done", Check.all(x, 1), before);
    }

    private static void receiveBase() {
        Volumes x = twoSnapshots();
        x.send(0, 0, 1);
        Check.due("P10 a base, but no SNAPSHOT", x.receive(1), TwinVolumes.BASE);
        x.send(0, NONE, 0);
        take(x, 1);
        Check.due("P10 no base, but a SNAPSHOT", x.receive(1), TwinVolumes.BASE);
        x.snapshot(1);
        x.send(0, 0, 1);
        Check.due("P10 the base is not the latest", x.receive(1), TwinVolumes.BASE);
        x.write(1, 1, 1);
        Check.due("P10 BASE ahead of DIRTY", x.receive(1), TwinVolumes.BASE);
        x.destroy(1, 1);
        x.rollback(1);
        Check.putNumber(x, 1, 8, 1L + (1L << 32));
        Check.putSum(x, 0, 17);
        Check.due("P10 all 8 bytes of the MARK", x.receive(1), TwinVolumes.BASE);
        Check.putNumber(x, 1, 8, 1);
        Check.putSum(x, 0, 17);
        Check.due("P10 the base is the latest", x.receive(1), TwinVolumes.DONE);
    }

    private static void receiveDirty() {
        Volumes x = twoSnapshots();
        x.write(1, 9, 9);
        Check.due("P10 no SNAPSHOT, and no HOLE", x.receive(1), TwinVolumes.DIRTY);
        x.clear(1, 9);
        take(x, 1);
        x.send(0, 0, 1);
        x.write(1, 2, 12);
        Check.due("P10 another block", x.receive(1), TwinVolumes.DIRTY);
        x.rollback(1);
        take(x, 1);
        Check.due("P11 received", x.read(1, 1, 2), 22);

        x = new Volumes();
        x.snapshot(0);
        x.write(0, 1, 1);
        x.snapshot(0);
        x.send(0, NONE, 0);
        take(x, 1);
        x.write(1, 1, 1);
        x.clear(1, 1);
        x.send(0, 0, 1);
        Check.due("P10 both HOLES, another BIRTH", x.receive(1), TwinVolumes.DIRTY);
        x.snapshot(1);
        x.rollback(1);
        Check.due("P10 not the base, and not DIRTY", x.receive(1), TwinVolumes.BASE);
        x.destroy(1, 1);
        Check.due("P10 DIRTY after destroy", x.receive(1), TwinVolumes.DIRTY);
        x.rollback(1);
        take(x, 1);
    }

    private static void receiveHave() {
        Volumes x = twoSnapshots();
        take(x, 1);
        x.send(0, 0, 1);
        take(x, 1);
        Check.putNumber(x, 1, 8, 2);
        Check.putSum(x, 0, 17);
        Check.due("P10 the latest has the target's MARK", x.receive(1), TwinVolumes.HAVE);
        Check.putNumber(x, 9, 8, 1);
        Check.putSum(x, 0, 17);
        Check.due("P10 an earlier one has it", x.receive(1), TwinVolumes.HAVE);
        x.write(1, 9, 9);
        Check.due("P10 DIRTY ahead of HAVE", x.receive(1), TwinVolumes.DIRTY);
        x.rollback(1);
        Check.putNumber(x, 9, 8, Long.MIN_VALUE);
        Check.putSum(x, 0, 17);
        take(x, 1);
        Check.due("P11 the target's MARK", x.snap(1, 2, 0), Long.MIN_VALUE);
        Check.due("P11 the next MARK stays", x.sent(4), 3);
    }

    private static void receiveThrows() {
        Volumes x = twoSnapshots();
        int[] wrong = {-1, 2, MAX, MIN};
        for (int volume : wrong) {
            Check.thrown("P10 volume " + volume, Check.ARGUMENT, () -> x.receive(volume));
            Check.thrown("P11 volume " + volume, Check.ARGUMENT, () -> x.step(volume, 1));
            Check.thrown("P12 volume " + volume, Check.ARGUMENT, () -> x.crash(volume));
        }
        Check.thrown("P11 not BUSY", Check.STATE, () -> x.step(1, 1));
        int[] wrongNumbers = {0, -1, MIN};
        for (int n : wrongNumbers) {
            Check.thrown("P11 the number ahead of not BUSY: " + n, Check.ARGUMENT, () -> x.step(1, n));
        }
        x.receive(1);
        String before = Check.all(x, 1);
        for (int n : wrongNumbers) {
            Check.thrown("P11 BUSY: " + n, Check.ARGUMENT, () -> x.step(1, n));
        }
        Check.thrown("P11 the other one is not BUSY", Check.STATE, () -> x.step(0, 1));
        Check.due("P11 throwing changes nothing", Check.all(x, 1), before);
    }

    private static void step() {
        Volumes x = twoSnapshots();
        x.receive(1);
        Check.due("P11 one", x.step(1, 1), TwinVolumes.MORE);
        Check.due("P11 one received", x.look(1, 8), 1);
        Check.due("P11 HIDDEN", x.look(1, 7), 0);
        Check.due("P11 LIVE stays", x.look(1, 5), NONE);
        Check.due("P11 two", x.step(1, 2), TwinVolumes.MORE);
        Check.due("P11 END is not among them", x.look(1, 4), 1);
        Check.due("P11 END", x.step(1, 1), TwinVolumes.DONE);
        Check.due("P11 not BUSY", x.look(1, 4), 0);
        Check.due("P11 END was received, too", x.look(1, 8), 4);
        Check.due("P11 no HIDDEN TREE", x.look(1, 7), NONE);
        Check.due("P11 the target's MARK", x.snap(1, 0, 0), 1);
        Check.due("P11 GENERATION G", x.snap(1, 0, 1), 1);
        Check.due("P11 G is one more", x.look(1, 2), 2);
        Check.due("P11 the LIVE TREE", x.read(1, NONE, 300), 13);
        Check.due("P11 two tell its block", x.block(1, x.look(1, 5), 2), 2);
        Check.due("P11 the SNAPSHOT's BIRTH", x.snap(1, 0, 3), 1);
        x.snapshot(1);
        x.destroy(1, 1);
        x.send(0, 0, 1);
        x.receive(1);
        Check.due("P11 all and more", x.step(1, 4), TwinVolumes.DONE);
        Check.due("P11 received: WRITE, CLEAR, END", x.look(1, 8), 3);
        Check.due("P11 WRITTEN", x.read(1, 1, 2), 22);
        Check.due("P11 CLEARED", x.read(1, 1, 300), 0);
        Check.due("P11 not told", x.read(1, 1, 1), 11);
        Check.due("P11 SNAPSHOT 0 stays", x.read(1, 0, 300), 13);
        Check.due("P11 its own GENERATION", x.snap(1, 1, 1), 3);
        Check.due("P11 a HOLE's BIRTH is the receiver's G", x.pointer(1, x.look(1, 5), 4, 1), 3);
        Check.thrown("P11 it is over", Check.STATE, () -> x.step(1, 1));
    }

    /** Receives a changed STREAM in volume 1, which was as told before. */
    private static void ended(String when, Volumes x, int status, int received) {
        String blocks = Check.all(x, 1);
        Check.due(when + ": receive", x.receive(1), TwinVolumes.DONE);
        Check.due(when + ": step", x.step(1, MAX), status);
        Check.due(when + ": received", x.look(1, 8), received);
        Check.due(when + ": not BUSY", x.look(1, 4), 0);
        x.snapshot(0);
        x.send(0, NONE, 0);
        x.format(0, 4);
        String after = Check.all(x, 1);
        Check.due(when + ": all else is as it was", withoutReceived(after), withoutReceived(blocks));
    }

    private static String withoutReceived(String all) {
        String[] parts = all.split(" ");
        parts[8] = "-";
        return String.join(" ", parts);
    }

    private static void stepBad() {
        Volumes x = twoSnapshots();
        for (int i = BEGIN; i < x.sent(3); i++) {
            x = twoSnapshots();
            x.patch(i, x.stream(i) ^ 64);
            ended("P11 byte " + i, x, TwinVolumes.BAD, Math.min((i - BEGIN) / 19, 3));
        }
        for (int n = BEGIN; n < BEGIN + 3 * 19 + 13; n++) {
            x = twoSnapshots();
            x.cut(n);
            ended("P11 cut to " + n, x, TwinVolumes.BAD, Math.min((n - BEGIN) / 19, 3));
        }
        int[] kinds = {0, 1, 5, 130, 255};
        for (int kind : kinds) {
            x = twoSnapshots();
            x.patch(BEGIN + 19, kind);
            Check.putSum(x, BEGIN + 19, 11);
            ended("P11 first byte " + kind, x, TwinVolumes.BAD, 1);
        }
        x = twoSnapshots();
        x.patch(BEGIN, 1);
        Check.putSum(x, BEGIN, 17);
        ended("P11 a BEGIN behind BEGIN", x, TwinVolumes.BAD, 0);
        changedWrite(512, TwinVolumes.BAD, 1);
        changedWrite(511, TwinVolumes.DONE, 4);
        changedWrite(65535, TwinVolumes.BAD, 1);
        changedClear(300, 0, TwinVolumes.BAD);
        changedClear(512, 1, TwinVolumes.BAD);
        changedClear(511, 2, TwinVolumes.BAD);
        changedClear(511, 1, TwinVolumes.DONE);
        changedClear(0, 512, TwinVolumes.DONE);
        changedClear(0, 513, TwinVolumes.BAD);
        changedClear(1, 512, TwinVolumes.BAD);
        changedClear(1, 65535, TwinVolumes.BAD);
        changedClear(65535, 65535, TwinVolumes.BAD);
        changedClear(298, 5, TwinVolumes.DONE);
    }

    private static void changedWrite(int place, int status, int received) {
        Volumes x = twoSnapshots();
        Check.putNumber(x, BEGIN + 19 + 1, 2, place);
        Check.putSum(x, BEGIN + 19, 11);
        if (status == TwinVolumes.BAD) {
            ended("P11 PLACE " + place, x, status, received);
            return;
        }
        x.receive(1);
        Check.due("P11 PLACE " + place, x.step(1, 9), status);
        Check.due("P11 WRITTEN at " + place, x.read(1, 0, place), 12);
        Check.due("P11 received", x.look(1, 8), received);
    }

    private static void changedClear(int place, int places, int status) {
        Volumes x = twoSnapshots();
        take(x, 1);
        x.send(0, 0, 1);
        int clear = BEGIN + 19;
        Check.due("P9 the CLEAR", x.stream(clear), 3);
        Check.putNumber(x, clear + 1, 2, place);
        Check.putNumber(x, clear + 3, 2, places);
        Check.putSum(x, clear, 5);
        if (status == TwinVolumes.BAD) {
            ended("P11 CLEAR " + place + ", " + places, x, status, 1);
            return;
        }
        x.receive(1);
        Check.due("P11 CLEAR " + place + ", " + places, x.step(1, 9), status);
        int[] written = {1, 2, 300};
        int[] longs = {11, 22, 13};
        for (int i = 0; i < 3; i++) {
            boolean cleared = written[i] >= place && written[i] < place + places;
            Check.due("P11 CLEARED " + written[i], x.read(1, 1, written[i]), cleared ? 0 : longs[i]);
        }
    }

    private static void stepBadEnd() {
        int end = BEGIN + 3 * 19;
        long[] numbers = {0, 3, 5, 4 + (1 << 8), 4 + (1 << 16), 4 + (1 << 24), -1, 4L - (1L << 31)};
        for (long n : numbers) {
            Volumes x = twoSnapshots();
            Check.putNumber(x, end + 1, 4, n);
            Check.putSum(x, end, 5);
            ended("P11 END tells " + n, x, TwinVolumes.BAD, 3);
        }
        Volumes x = twoSnapshots();
        Check.due("P9 END tells BEGIN, too", Check.number(x, end + 1, 4), 4);
        x.patch(BEGIN, 4);
        Check.putNumber(x, BEGIN + 1, 4, 1);
        Check.putSum(x, BEGIN, 5);
        ended("P11 bytes behind END", x, TwinVolumes.BAD, 0);
        x = twoSnapshots();
        x.patch(BEGIN, 4);
        Check.putNumber(x, BEGIN + 1, 4, 1);
        Check.putSum(x, BEGIN, 5);
        x.cut(BEGIN + 14);
        ended("P11 one byte behind END", x, TwinVolumes.BAD, 0);
        x = twoSnapshots();
        x.patch(BEGIN, 4);
        Check.putNumber(x, BEGIN + 1, 4, 1);
        Check.putSum(x, BEGIN, 5);
        x.cut(BEGIN + 13);
        x.receive(1);
        Check.due("P11 END alone", x.step(1, 1), TwinVolumes.DONE);
        Check.due("P11 a SNAPSHOT of a HOLE", x.snap(1, 0, 2), NONE);
        Check.due("P11 received", x.look(1, 8), 1);
    }

    private static void stepFull() {
        Volumes x = twoSnapshots();
        x.format(1, 5);
        x.receive(1);
        Check.due("P11 two fit", x.step(1, 2), TwinVolumes.MORE);
        Check.due("P11 none FREE", x.look(1, 1), 0);
        Check.due("P11 the third does not", x.step(1, 1), TwinVolumes.FULL);
        Check.due("P11 not BUSY", x.look(1, 4), 0);
        Check.due("P11 all FREE", x.look(1, 1), 5);
        Check.due("P11 the FULL one was not received", x.look(1, 8), 2);
        Check.thrown("P11 it is over", Check.STATE, () -> x.step(1, 1));
        ended("P11 FULL", x, TwinVolumes.FULL, 2);

        Volumes y = twoSnapshots();
        y.send(0, NONE, 0);
        y.format(1, 8);
        take(y, 1);
        y.send(0, 0, 1);
        y.patch(BEGIN, 3);
        Check.putNumber(y, BEGIN + 1, 2, 300);
        Check.putNumber(y, BEGIN + 3, 2, 1);
        Check.putSum(y, BEGIN, 5);
        Check.due("P11 none FREE for a CLEAR", y.look(1, 1), 0);
        ended("P11 a CLEAR that is FULL", y, TwinVolumes.FULL, 0);

        Volumes z = twoSnapshots();
        z.format(1, 8);
        take(z, 1);
        z.send(0, 0, 1);
        Check.putNumber(z, BEGIN + 1, 2, 512);
        Check.putSum(z, BEGIN, 11);
        ended("P11 BAD ahead of FULL", z, TwinVolumes.BAD, 0);
    }

    private static void stepFullOfSnapshots() {
        Volumes x = new Volumes();
        x.write(0, 1, 1);
        x.snapshot(0);
        x.write(0, 1, 2);
        x.snapshot(0);
        x.send(0, NONE, 0);
        take(x, 1);
        for (int k = 1; k < 20; k++) {
            x.snapshot(1);
        }
        x.send(0, 0, 1);
        Check.putNumber(x, 1, 8, x.snap(1, 19, 0));
        Check.putSum(x, 0, 17);
        ended("P11 an END when there are 20", x, TwinVolumes.FULL, 1);

        Volumes y = twoSnapshots();
        for (int k = 0; k < 20; k++) {
            y.snapshot(1);
        }
        y.send(0, 0, 1);
        Check.putNumber(y, 1, 8, y.snap(1, 19, 0));
        Check.putSum(y, 0, 17);
        y.patch(y.sent(3) - 1, 0);
        ended("P11 a BAD END ahead of FULL", y, TwinVolumes.BAD, 2);

        Volumes z = twoSnapshots();
        for (int k = 0; k < 19; k++) {
            z.snapshot(1);
        }
        z.send(0, 0, 1);
        Check.putNumber(z, 1, 8, z.snap(1, 18, 0));
        Check.putSum(z, 0, 17);
        take(z, 1);
        Check.due("P11 the 20th", z.look(1, 3), 20);
    }

    /** In a RECORD nothing becomes FREE that the next PLACE of the same RECORD could take. */
    private static void blocksAreFreeAfterEachRecord() {
        Check.due("P11 ten new blocks wanted, nine FREE", clearOf64(9), TwinVolumes.FULL);
        Check.due("P11 ten new blocks wanted, ten FREE", clearOf64(10), TwinVolumes.DONE);
        Volumes x = new Volumes();
        x.write(0, 0, 1);
        x.snapshot(0);
        x.send(0, NONE, 0);
        x.format(1, 9);
        take(x, 1);
        x.write(0, 0, 2);
        x.write(0, 1, 3);
        x.snapshot(0);
        x.send(0, 0, 1);
        x.patch(BEGIN, 3);
        Check.due("P11 five FREE", x.look(1, 1), 5);
        x.patch(BEGIN, 2);
        x.receive(1);
        x.step(1, 2);
        Check.due("P11 none FREE", x.look(1, 1), 0);
        x.crash(1);
        Check.due("P11 five FREE again", x.look(1, 1), 5);
    }

    /** Receives a CLEAR of 64 PLACES with eight DATA blocks, each in its own block of level 1: 18 blocks in all. */
    private static int clearOf64(int free) {
        Volumes x = new Volumes();
        for (int i = 0; i < 8; i++) {
            x.write(0, 8 * i, i);
        }
        x.snapshot(0);
        x.send(0, NONE, 0);
        x.format(1, 18 + free);
        take(x, 1);
        Check.due("P11 FREE ahead of it", x.look(1, 1), free);
        for (int i = 0; i < 8; i++) {
            x.clear(0, 8 * i);
        }
        x.write(0, 64, 5);
        x.snapshot(0);
        x.send(0, 0, 1);
        Check.due("P9 a CLEAR", x.stream(BEGIN), 3);
        Check.due("P9 of 64", Check.number(x, BEGIN + 3, 2), 64);
        x.receive(1);
        int status = x.step(1, 1);
        if (status == TwinVolumes.MORE) {
            Check.due("P11 FREE when the RECORD is done", x.look(1, 1), free);
            status = x.step(1, 99);
        }
        return status;
    }

    private static void streamOfNow() {
        Volumes x = twoSnapshots();
        x.receive(1);
        x.step(1, 1);
        x.patch(BEGIN + 19 + 10, 99);
        Check.putSum(x, BEGIN + 19, 11);
        x.patch(5, 77);
        Check.due("P11 the bytes of now", x.step(1, 3), TwinVolumes.DONE);
        Check.due("P11 the long of now", x.read(1, 0, 2), 99);
        Check.due("P11 the MARK that BEGIN had", x.snap(1, 0, 0), 1);
        x = twoSnapshots();
        x.receive(1);
        x.step(1, 2);
        x.cut(40);
        Check.due("P11 the STREAM ends ahead of it", x.step(1, 1), TwinVolumes.BAD);
        x = twoSnapshots();
        x.receive(1);
        x.step(1, 1);
        x.write(0, 1, 1);
        x.snapshot(0);
        x.send(0, NONE, 0);
        Check.due("P11 the same bytes sent again", x.step(1, 9), TwinVolumes.DONE);
    }

    private static void crash() {
        Volumes x = twoSnapshots();
        take(x, 1);
        x.send(0, 0, 1);
        String before = Check.all(x, 1);
        Check.due("P12 none was", x.crash(1), false);
        Check.due("P12 nothing is changed", Check.all(x, 1), before);
        x.receive(1);
        x.step(1, 2);
        Check.due("P12 the other volume", x.crash(0), false);
        Check.due("P12 goes on", x.look(1, 4), 1);
        Check.due("P12 one was", x.crash(1), true);
        Check.due("P12 two were received", x.look(1, 8), 2);
        Check.due("P12 all else is as it was", withoutReceived(Check.all(x, 1)), withoutReceived(before));
        Check.due("P12 one was only once", x.crash(1), false);
        take(x, 1);
        Check.due("P12 from the beginning", x.read(1, 1, 2), 22);
    }

    private static void bothAtOnce() {
        Volumes x = twoSnapshots();
        x.format(0, 50);
        x.receive(0);
        x.step(0, 1);
        x.receive(1);
        x.step(1, 3);
        Check.due("P11 volume 0 has its own place in the STREAM", x.look(0, 8), 1);
        Check.due("P11 DONE in volume 0", x.step(0, 3), TwinVolumes.DONE);
        Check.due("P11 DONE in volume 1", x.step(1, 1), TwinVolumes.DONE);
        Check.due("P11 both have it", x.read(0, 0, 300) + x.read(1, 0, 300), 26);
        Check.due("P11 the same MARK", x.snap(0, 0, 0), x.snap(1, 0, 0));
    }
}
