/** Promises 1 to 8: a new object, format, write, clear, read, snapshot, destroy, rollback. */
public final class VolumeTest {
    private static final int NONE = TwinVolumes.NONE;
    private static final int MAX = Integer.MAX_VALUE;
    private static final int MIN = Integer.MIN_VALUE;

    public static void main(String[] args) {
        newObject();
        format();
        formatEndsReceiving();
        write();
        writeCopies();
        writeBelowHolesKeepsTheirBirth();
        writeFull();
        clear();
        clearCopies();
        clearFull();
        read();
        snapshot();
        destroy();
        rollback();
        busy();
        Check.end("VolumeTest");
    }

    private static void looks(String when, Volumes x, int volume, int... due) {
        for (int what = 0; what < due.length; what++) {
            Check.due(when + ": look(" + volume + ", " + what + ")", x.look(volume, what), due[what]);
        }
    }

    private static void newObject() {
        Volumes x = new Volumes();
        for (int volume = 0; volume < 2; volume++) {
            looks("P1 new", x, volume, 100, 100, 1, 0, 0, NONE, 0, NONE, 0);
            Check.due("P1 read", x.read(volume, NONE, 0), 0);
            Check.due("P1 first block is FREE", x.block(volume, 0, 0), NONE);
        }
        Check.due("P1 empty STREAM", x.stream(0), NONE);
        for (int what = 0; what < 4; what++) {
            Check.due("P1 sent " + what, x.sent(what), 0);
        }
        Check.due("P1 next MARK", x.sent(4), 1);
        Volumes y = new Volumes();
        y.write(0, 0, 5);
        Check.due("P1 objects have nothing in common", x.read(0, NONE, 0), 0);
    }

    private static void format() {
        Volumes x = new Volumes();
        x.write(0, 3, 7);
        x.write(1, 4, 8);
        x.snapshot(0);
        x.snapshot(1);
        x.send(0, NONE, 0);
        String stream = Check.all(x);
        String other = Check.all(x, 1);
        String before = Check.all(x, 0);
        int[] wrongBlocks = {3, 0, -1, 601, MAX, MIN};
        for (int blocks : wrongBlocks) {
            Check.thrown("P2 format(0, " + blocks + ")", Check.ARGUMENT, () -> x.format(0, blocks));
        }
        int[] wrongVolumes = {-1, 2, MAX, MIN};
        for (int volume : wrongVolumes) {
            Check.thrown("P2 format(" + volume + ", 100)", Check.ARGUMENT, () -> x.format(volume, 100));
        }
        Check.due("P2 a throwing format changes nothing", Check.all(x, 0), before);
        x.format(0, 4);
        looks("P2 4 blocks", x, 0, 4, 4, 1, 0, 0, NONE, 0, NONE, 0);
        Check.due("P2 read after format", x.read(0, NONE, 3), 0);
        Check.due("P2 no SNAPSHOT after format", x.snap(0, 0, 0), NONE);
        Check.due("P2 no block 4", x.block(0, 4, 2), NONE);
        Check.due("P2 STREAM and MARKS stay", Check.all(x), stream);
        Check.due("P2 the other volume stays", Check.all(x, 1), other);
        x.format(0, 600);
        looks("P2 600 blocks", x, 0, 600, 600, 1, 0, 0, NONE, 0, NONE, 0);
        Check.due("P2 block 599", x.block(0, 599, 2), 0);
        x.write(0, 0, 1);
        x.clear(0, 0);
        Check.due("P2 a HOLE with BIRTH 1", x.look(0, 6), 1);
        x.format(0, 10);
        Check.due("P2 BIRTH 0 again", x.look(0, 6), 0);
        x.write(0, 511, 9);
        Check.due("P2 the HOLES are anew, too", x.pointer(0, 0, 0, 1), 0);
        Check.due("P2 the next MARK goes on", x.snapshot(0) + x.snap(0, 0, 0), 3);
    }

    private static void formatEndsReceiving() {
        Volumes x = new Volumes();
        x.write(0, 3, 7);
        x.snapshot(0);
        x.send(0, NONE, 0);
        x.receive(1);
        x.step(1, 1);
        looks("P2 under way", x, 1, 100, 96, 1, 0, 1, NONE, 0, 0, 1);
        x.format(1, 50);
        looks("P2 not BUSY after format", x, 1, 50, 50, 1, 0, 0, NONE, 0, NONE, 0);
        Check.thrown("P2 step after format", Check.STATE, () -> x.step(1, 1));
    }

    private static void write() {
        Volumes x = new Volumes();
        Check.due("P3 DONE", x.write(0, 5, Long.MIN_VALUE), TwinVolumes.DONE);
        Check.due("P3 read", x.read(0, NONE, 5), Long.MIN_VALUE);
        looks("P3 four blocks", x, 0, 100, 96, 1, 0, 0, 0, 1, NONE, 0);
        for (int b = 0; b < 4; b++) {
            Check.due("P3 from the TREE's on: level of " + b, x.block(0, b, 0), 3 - b);
            Check.due("P3 BIRTH of " + b, x.block(0, b, 1), 1);
        }
        Check.due("P3 level 2 by pointer 0", x.pointer(0, 0, 0, 0), 1);
        Check.due("P3 level 0 by pointer 5", x.pointer(0, 2, 5, 0), 3);
        Check.due("P3 its BIRTH", x.pointer(0, 2, 5, 1), 1);
        Check.due("P3 another pointer is a HOLE", x.pointer(0, 2, 4, 0), NONE);
        Check.due("P3 with the BIRTH of the HOLE", x.pointer(0, 2, 4, 1), 0);
        x.write(0, 5, 6);
        Check.due("P3 the same block in the same GENERATION", x.data(0, 3), 6);
        Check.due("P3 none more", x.look(0, 1), 96);
        x.write(0, 5 + 8, 1);
        Check.due("P3 one of level 1 and one of level 0 more", x.look(0, 1), 94);
        Check.due("P3 p / 8 % 8", x.pointer(0, 1, 1, 0), 4);
        x.write(0, 511, 0);
        Check.due("P3 0 is written, too", x.look(0, 1), 91);
        Check.due("P3 p / 64", x.pointer(0, 0, 7, 0), 6);
        Check.due("P3 p / 8 % 8 of 511", x.pointer(0, 6, 7, 0), 7);
        Check.due("P3 p % 8 of 511", x.pointer(0, 7, 7, 0), 8);
        Check.due("P3 the other volume has nothing", x.look(1, 1), 100);
        Check.due("P3 in volume 1", x.write(1, 0, 3), TwinVolumes.DONE);
        Check.due("P3 read of volume 1", x.read(1, NONE, 0), 3);
        String before = Check.all(x, 0) + Check.all(x, 1);
        int[] wrong = {-1, 512, MAX, MIN};
        for (int w : wrong) {
            Check.thrown("P3 place " + w, Check.ARGUMENT, () -> x.write(0, w, 1));
            int volume = w == 512 ? 2 : w;
            Check.thrown("P3 volume " + volume, Check.ARGUMENT, () -> x.write(volume, 1, 1));
        }
        Check.due("P3 throwing changes nothing", Check.all(x, 0) + Check.all(x, 1), before);
    }

    private static void writeCopies() {
        Volumes x = new Volumes();
        x.write(0, 0, 1);
        x.write(0, 1, 2);
        x.snapshot(0);
        x.write(0, 0, 3);
        Check.due("P3 four new ones", x.look(0, 1), 91);
        Check.due("P3 TREE's first", x.look(0, 5), 5);
        Check.due("P3 DATA last", x.pointer(0, 7, 0, 0), 8);
        Check.due("P3 a copy has the same POINTERS", x.pointer(0, 7, 1, 0), 4);
        Check.due("P3 with their BIRTH", x.pointer(0, 7, 1, 1), 1);
        Check.due("P3 both tell it", x.block(0, 4, 2), 2);
        Check.due("P3 the SNAPSHOT stays", x.read(0, 0, 0), 1);
        Check.due("P3 the LIVE TREE", x.read(0, NONE, 0), 3);
        x.write(0, 1, 4);
        Check.due("P3 only the DATA block is new", x.look(0, 1), 90);
        Check.due("P3 new BIRTH", x.pointer(0, 7, 1, 1), 2);
        x.destroy(0, 0);
        Check.due("P3 first five are FREE", x.look(0, 1), 95);
        x.write(0, 2, 5);
        Check.due("P3 the FREE one with the least number", x.pointer(0, 7, 2, 0), 0);
        x.snapshot(0);
        x.destroy(0, 0);
        x.write(0, 0, 6);
        Check.due("P3 old ones are not FREE before the call is done", x.look(0, 5), 1);
        Check.due("P3 but then", x.look(0, 1), 94);
    }

    private static void writeBelowHolesKeepsTheirBirth() {
        Volumes x = new Volumes();
        x.write(0, 0, 1);
        x.write(0, 64, 1);
        x.snapshot(0);
        x.clear(0, 64);
        x.snapshot(0);
        x.write(0, 65, 2);
        int top = x.look(0, 5);
        int second = x.pointer(0, top, 1, 0);
        Check.due("P3 BIRTH G", x.pointer(0, top, 1, 1), 3);
        Check.due("P3 HOLES of the HOLE's BIRTH", x.pointer(0, second, 1, 1), 2);
        int third = x.pointer(0, second, 0, 0);
        Check.due("P3 and below", x.pointer(0, third, 0, 1), 2);
        Check.due("P3 other HOLES", x.pointer(0, top, 2, 1), 0);
        x.clear(0, 65);
        x.clear(0, 0);
        Check.due("P3 a TREE that is a HOLE", x.look(0, 5), NONE);
        x.snapshot(0);
        x.write(0, 3, 3);
        Check.due("P3 HOLES of the TREE's BIRTH", x.pointer(0, x.look(0, 5), 7, 1), 3);
    }

    private static void writeFull() {
        Volumes x = new Volumes();
        x.format(0, 7);
        Check.due("P3 four of 7", x.write(0, 0, 1), TwinVolumes.DONE);
        x.write(0, 1, 1);
        String before = Check.all(x, 0);
        Check.due("P3 three wanted, two FREE", x.write(0, 64, 1), TwinVolumes.FULL);
        Check.due("P3 nothing is done", Check.all(x, 0), before);
        Check.due("P3 two wanted, two FREE", x.write(0, 8, 1), TwinVolumes.DONE);
        Check.due("P3 none FREE", x.look(0, 1), 0);
        Check.due("P3 none wanted", x.write(0, 8, 2), TwinVolumes.DONE);
        x.snapshot(0);
        Check.due("P3 four wanted", x.write(0, 8, 3), TwinVolumes.FULL);
        x.destroy(0, 0);
        Check.due("P3 four wanted with no SNAPSHOT, too", x.write(0, 8, 3), TwinVolumes.FULL);
        Check.due("P3 still there", x.read(0, NONE, 8), 2);
    }

    private static void clear() {
        Volumes x = new Volumes();
        String before = Check.all(x, 0);
        Check.due("P4 HOLE", x.clear(0, 5), TwinVolumes.DONE);
        Check.due("P4 nothing is done", Check.all(x, 0), before);
        x.write(0, 0, 1);
        x.write(0, 1, 2);
        x.write(0, 8, 3);
        before = Check.all(x, 0);
        Check.due("P4 HOLE at level 0", x.clear(0, 2), TwinVolumes.DONE);
        Check.due("P4 HOLE at level 1", x.clear(0, 16), TwinVolumes.DONE);
        Check.due("P4 HOLE at level 2", x.clear(0, 64), TwinVolumes.DONE);
        Check.due("P4 nothing is done on the way", Check.all(x, 0), before);
        Check.due("P4 DONE", x.clear(0, 0), TwinVolumes.DONE);
        Check.due("P4 read", x.read(0, NONE, 0), 0);
        Check.due("P4 a HOLE", x.pointer(0, 2, 0, 0), NONE);
        Check.due("P4 with BIRTH G", x.pointer(0, 2, 0, 1), 1);
        Check.due("P4 the DATA block is FREE", x.block(0, 3, 0), NONE);
        Check.due("P4 no more", x.look(0, 1), 94);
        x.clear(0, 1);
        Check.due("P4 a block that has nothing but HOLES", x.pointer(0, 1, 0, 0), NONE);
        Check.due("P4 its BIRTH", x.pointer(0, 1, 0, 1), 1);
        Check.due("P4 the other one stays", x.read(0, NONE, 8), 3);
        x.snapshot(0);
        x.clear(0, 8);
        looks("P4 up to the TREE", x, 0, 100, 96, 2, 1, 0, NONE, 2);
        Check.due("P4 not in the SNAPSHOT", x.read(0, 0, 8), 3);
        x.destroy(0, 0);
        looks("P4 all FREE", x, 0, 100, 100, 2, 0, 0, NONE, 2);
        int[] wrong = {-1, 512, MAX, MIN};
        for (int w : wrong) {
            Check.thrown("P4 place " + w, Check.ARGUMENT, () -> x.clear(0, w));
            int volume = w == 512 ? 2 : w;
            Check.thrown("P4 volume " + volume, Check.ARGUMENT, () -> x.clear(volume, 1));
        }
    }

    private static void clearCopies() {
        Volumes x = new Volumes();
        x.write(0, 0, 1);
        x.write(0, 1, 2);
        x.snapshot(0);
        x.clear(0, 0);
        Check.due("P4 three new ones", x.look(0, 1), 92);
        Check.due("P4 TREE's", x.look(0, 5), 5);
        Check.due("P4 the HOLE has BIRTH G", x.pointer(0, 7, 0, 1), 2);
        Check.due("P4 the other one is shared", x.pointer(0, 7, 1, 0), 4);
        Check.due("P4 the SNAPSHOT's one stays", x.pointer(0, 2, 0, 0), 3);
        x.write(0, 100, 5);
        x.snapshot(0);
        x.clear(0, 1);
        Check.due("P4 the TREE's block is new", x.look(0, 6), 3);
        Check.due("P4 level 2 is a HOLE", x.pointer(0, x.look(0, 5), 0, 0), NONE);
        Check.due("P4 level 2 has BIRTH G", x.pointer(0, x.look(0, 5), 0, 1), 3);
        Check.due("P4 new ones that are not wanted any more are FREE", x.look(0, 1), 88);
    }

    private static void clearFull() {
        Volumes x = new Volumes();
        x.format(0, 7);
        x.write(0, 0, 1);
        x.write(0, 1, 1);
        x.snapshot(0);
        String before = Check.all(x, 0);
        Check.due("P4 three wanted, two FREE", x.clear(0, 0), TwinVolumes.FULL);
        Check.due("P4 nothing is done", Check.all(x, 0), before);
        Check.due("P4 none wanted for a HOLE", x.clear(0, 2), TwinVolumes.DONE);
        x.format(0, 7);
        x.write(0, 0, 1);
        x.snapshot(0);
        Check.due("P4 three wanted, three FREE", x.clear(0, 0), TwinVolumes.DONE);
        Check.due("P4 three FREE again", x.look(0, 1), 3);
        x.format(0, 6);
        x.write(0, 0, 1);
        x.snapshot(0);
        Check.due("P4 wanted though they would be FREE at once", x.clear(0, 0), TwinVolumes.FULL);
    }

    private static void read() {
        Volumes x = new Volumes();
        x.write(0, 511, -5);
        x.snapshot(0);
        x.write(0, 511, 6);
        x.snapshot(0);
        x.clear(0, 511);
        Check.due("P5 SNAPSHOT 0", x.read(0, 0, 511), -5);
        Check.due("P5 SNAPSHOT 1", x.read(0, 1, 511), 6);
        Check.due("P5 LIVE", x.read(0, NONE, 511), 0);
        Check.due("P5 a HOLE", x.read(0, 0, 0), 0);
        int[] wrongSnapshots = {-2, 2, 20, MAX, MIN};
        for (int k : wrongSnapshots) {
            Check.thrown("P5 SNAPSHOT " + k, Check.MISSING, () -> x.read(0, k, 0));
            Check.thrown("P5 the place ahead of SNAPSHOT " + k, Check.ARGUMENT, () -> x.read(0, k, 512));
            Check.thrown("P5 the volume ahead of SNAPSHOT " + k, Check.ARGUMENT, () -> x.read(2, k, 0));
        }
        Check.thrown("P5 place -1", Check.ARGUMENT, () -> x.read(0, NONE, -1));
        Check.thrown("P5 place 512", Check.ARGUMENT, () -> x.read(0, 0, 512));
        Check.thrown("P5 volume -1", Check.ARGUMENT, () -> x.read(-1, NONE, 0));
        Check.thrown("P5 no SNAPSHOT in volume 1", Check.MISSING, () -> x.read(1, 0, 0));
    }

    private static void snapshot() {
        Volumes x = new Volumes();
        Check.due("P6 of a HOLE", x.snapshot(0), 0);
        Check.due("P6 MARK", x.snap(0, 0, 0), 1);
        Check.due("P6 GENERATION", x.snap(0, 0, 1), 1);
        Check.due("P6 G is one more", x.look(0, 2), 2);
        Check.due("P6 MARKS for both volumes", x.snapshot(1), 0);
        Check.due("P6 MARK of volume 1", x.snap(1, 0, 0), 2);
        Check.due("P6 its GENERATION", x.snap(1, 0, 1), 1);
        x.write(0, 9, 9);
        Check.due("P6 the second", x.snapshot(0), 1);
        Check.due("P6 its MARK", x.snap(0, 1, 0), 3);
        Check.due("P6 its block", x.snap(0, 1, 2), x.look(0, 5));
        Check.due("P6 two tell it", x.block(0, x.look(0, 5), 2), 2);
        for (int k = 2; k < 20; k++) {
            Check.due("P6 SNAPSHOT " + k, x.snapshot(0), k);
        }
        String before = Check.all(x, 0) + Check.all(x);
        Check.thrown("P6 there are 20", Check.UNSUPPORTED, () -> x.snapshot(0));
        Check.due("P6 throwing changes nothing", Check.all(x, 0) + Check.all(x), before);
        x.destroy(0, 3);
        Check.due("P6 19 then", x.snapshot(0), 19);
        Check.due("P6 the MARKS go on", x.snap(0, 19, 0), 22);
        int[] wrong = {-1, 2, MAX, MIN};
        for (int volume : wrong) {
            Check.thrown("P6 volume " + volume, Check.ARGUMENT, () -> x.snapshot(volume));
        }
    }

    private static void destroy() {
        Volumes x = new Volumes();
        for (int k = 0; k < 4; k++) {
            x.write(0, 7, 10 + k);
            x.snapshot(0);
        }
        Check.due("P7 16 blocks", x.look(0, 1), 84);
        int[] wrongSnapshots = {-2, NONE, 4, 20, MAX, MIN};
        for (int k : wrongSnapshots) {
            Check.thrown("P7 SNAPSHOT " + k, Check.MISSING, () -> x.destroy(0, k));
            Check.thrown("P7 the volume ahead of SNAPSHOT " + k, Check.ARGUMENT, () -> x.destroy(2, k));
        }
        Check.thrown("P7 volume -1", Check.ARGUMENT, () -> x.destroy(-1, 0));
        Check.due("P7 three are left", x.destroy(0, 1), 3);
        Check.due("P7 four blocks are FREE", x.look(0, 1), 88);
        Check.due("P7 one number less: MARK", x.snap(0, 1, 0), 3);
        Check.due("P7 one number less: GENERATION", x.snap(0, 1, 1), 3);
        Check.due("P7 one number less: what it has", x.read(0, 1, 7), 12);
        Check.due("P7 and the next", x.read(0, 2, 7), 13);
        Check.due("P7 ahead of it", x.read(0, 0, 7), 10);
        Check.due("P7 none behind them", x.snap(0, 3, 0), NONE);
        Check.due("P7 GENERATION stays", x.look(0, 2), 5);
        Check.due("P7 the latest", x.destroy(0, 2), 2);
        Check.due("P7 its blocks are the LIVE TREE's", x.look(0, 1), 88);
        Check.due("P7 LIVE stays", x.read(0, NONE, 7), 13);
        Check.due("P7 first", x.destroy(0, 0), 1);
        Check.due("P7 last one", x.destroy(0, 0), 0);
        Check.due("P7 four blocks are left", x.look(0, 1), 96);
        Check.due("P7 LIVE has them", x.read(0, NONE, 7), 13);
        Check.thrown("P7 none", Check.MISSING, () -> x.destroy(0, 0));
    }

    private static void rollback() {
        Volumes x = new Volumes();
        x.write(0, 7, 1);
        Check.thrown("P8 no SNAPSHOT", Check.MISSING, () -> x.rollback(0));
        x.snapshot(0);
        x.write(0, 7, 2);
        x.snapshot(0);
        String before = Check.all(x, 0);
        x.write(0, 7, 3);
        x.write(0, 300, 3);
        Check.due("P8 the latest", x.rollback(0), 1);
        Check.due("P8 all is as it was", Check.all(x, 0), before);
        Check.due("P8 again", x.rollback(0), 1);
        x.write(0, 7, 4);
        Check.due("P8 the SNAPSHOT is not written", x.read(0, 1, 7), 2);
        x.destroy(0, 1);
        Check.due("P8 the one ahead", x.rollback(0), 0);
        Check.due("P8 its PLACE", x.read(0, NONE, 7), 1);
        Check.due("P8 four blocks are left", x.look(0, 1), 96);
        Check.due("P8 its BIRTH", x.look(0, 6), 1);
        Check.due("P8 G stays", x.look(0, 2), 3);
        int[] wrong = {-1, 2, MAX, MIN};
        for (int volume : wrong) {
            Check.thrown("P8 volume " + volume, Check.ARGUMENT, () -> x.rollback(volume));
        }
        Check.thrown("P8 volume 1 has none", Check.MISSING, () -> x.rollback(1));
    }

    private static void busy() {
        Volumes x = new Volumes();
        x.format(1, 4);
        x.write(0, 7, 1);
        x.snapshot(0);
        x.send(0, NONE, 0);
        x.receive(1);
        x.step(1, 1);
        String before = Check.all(x, 1) + Check.all(x);
        Check.due("P3 BUSY ahead of FULL", x.write(1, 100, 1), TwinVolumes.BUSY);
        Check.due("P4 BUSY, a HOLE too", x.clear(1, 7), TwinVolumes.BUSY);
        Check.thrown("P3 the place ahead of BUSY", Check.ARGUMENT, () -> x.write(1, 512, 1));
        Check.thrown("P4 the place ahead of BUSY", Check.ARGUMENT, () -> x.clear(1, -1));
        Check.due("P5 the HIDDEN TREE is not read", x.read(1, NONE, 7), 0);
        Check.thrown("P6 BUSY", Check.STATE, () -> x.snapshot(1));
        Check.thrown("P7 BUSY ahead of no SNAPSHOT", Check.STATE, () -> x.destroy(1, 0));
        Check.thrown("P8 BUSY ahead of no SNAPSHOT", Check.STATE, () -> x.rollback(1));
        Check.due("P3 to P8 nothing is done", Check.all(x, 1) + Check.all(x), before);
        Check.due("P3 the other volume is not BUSY", x.write(0, 1, 1), TwinVolumes.DONE);
        x.format(1, 100);
        for (int k = 0; k < 20; k++) {
            x.snapshot(1);
        }
        x.send(1, 18, 19);
        x.destroy(1, 19);
        x.receive(1);
        x.crash(1);
        x.snapshot(1);
        Check.thrown("P6 20, not BUSY", Check.UNSUPPORTED, () -> x.snapshot(1));
        Check.putNumber(x, 1, 8, x.snap(1, 19, 0));
        Check.putSum(x, 0, 17);
        Check.due("P10 with 20 SNAPSHOTS", x.receive(1), TwinVolumes.DONE);
        Check.thrown("P6 BUSY ahead of 20", Check.STATE, () -> x.snapshot(1));
    }
}
