/** Promises 16 to 20: snap, block, pointer, data, look. */
public final class LookingTest {
    private static final int NONE = TwinVolumes.NONE;
    private static final int[] FAR = {-2, 600, Integer.MAX_VALUE, Integer.MIN_VALUE};

    public static void main(String[] args) {
        snap();
        block();
        pointer();
        data();
        look();
        Check.end("LookingTest");
    }

    private static Volumes used() {
        Volumes x = new Volumes();
        x.snapshot(0);
        x.write(0, 0, -7);
        x.write(0, 8, 5);
        x.snapshot(0);
        x.write(0, 0, 6);
        x.snapshot(0);
        return x;
    }

    private static void snap() {
        Volumes x = used();
        x.clear(0, 0);
        x.clear(0, 8);
        x.snapshot(1);
        x.snapshot(0);
        long[][] due = {{1, 1, NONE, 0}, {2, 2, 0, 2}, {3, 3, 6, 3}, {5, 4, NONE, 4}};
        for (int k = 0; k < 4; k++) {
            for (int what = 0; what < 4; what++) {
                Check.due("P16 snap(0, " + k + ", " + what + ")", x.snap(0, k, what), due[k][what]);
            }
            Check.due("P16 what -1", x.snap(0, k, -1), NONE);
            Check.due("P16 what 4", x.snap(0, k, 4), NONE);
        }
        Check.due("P16 volume 1", x.snap(1, 0, 0), 4);
        for (int what = 0; what < 4; what++) {
            Check.due("P16 no SNAPSHOT NONE", x.snap(0, NONE, what), NONE);
            Check.due("P16 no SNAPSHOT 4", x.snap(0, 4, what), NONE);
            Check.due("P16 no SNAPSHOT 1 of volume 1", x.snap(1, 1, what), NONE);
            Check.due("P16 no volume -1", x.snap(-1, 0, what), NONE);
            Check.due("P16 no volume 2", x.snap(2, 0, what), NONE);
            for (int far : FAR) {
                Check.due("P16 SNAPSHOT " + far, x.snap(0, far, what), NONE);
                Check.due("P16 volume " + far, x.snap(far, 0, what), NONE);
                Check.due("P16 what " + far, x.snap(0, 0, far), NONE);
            }
        }
        x.send(1, NONE, 0);
        x.format(1, 10);
        Check.putNumber(x, 9, 8, Long.MAX_VALUE);
        Check.putSum(x, 0, 17);
        x.receive(1);
        x.step(1, 1);
        Check.due("P16 a MARK of 8 bytes", x.snap(1, 0, 0), Long.MAX_VALUE);
    }

    private static void block() {
        Volumes x = used();
        int[][] due = {
            {3, 2, 1}, {2, 2, 1}, {1, 2, 1}, {0, 2, 1}, {1, 2, 2}, {0, 2, 1},
            {3, 3, 2}, {2, 3, 1}, {1, 3, 1}, {0, 3, 1}, {NONE, NONE, 0}, {NONE, NONE, 0}
        };
        for (int b = 0; b < due.length; b++) {
            for (int what = 0; what < 3; what++) {
                Check.due("P17 block(0, " + b + ", " + what + ")", x.block(0, b, what), due[b][what]);
            }
            Check.due("P17 what -1", x.block(0, b, -1), NONE);
            Check.due("P17 what 3", x.block(0, b, 3), NONE);
        }
        for (int what = 0; what < 3; what++) {
            Check.due("P17 no block -1", x.block(0, -1, what), NONE);
            Check.due("P17 no block 100", x.block(0, 100, what), NONE);
            Check.due("P17 no volume -1", x.block(-1, 0, what), NONE);
            Check.due("P17 no volume 2", x.block(2, 0, what), NONE);
            for (int far : FAR) {
                Check.due("P17 block " + far, x.block(0, far, what), NONE);
                Check.due("P17 volume " + far, x.block(far, 0, what), NONE);
                Check.due("P17 what " + far, x.block(0, 0, far), NONE);
            }
        }
        Check.due("P17 the last block", x.block(0, 99, 2), 0);
        x.destroy(0, 1);
        Check.due("P17 FREE: level", x.block(0, 0, 0), NONE);
        Check.due("P17 FREE: BIRTH", x.block(0, 0, 1), NONE);
        Check.due("P17 FREE: POINTERS", x.block(0, 0, 2), 0);
        Check.due("P17 only those in blocks that are not FREE", x.block(0, 4, 2), 1);
        x.snapshot(0);
        x.snapshot(0);
        Check.due("P17 each SNAPSHOT's own", x.block(0, 6, 2), 4);
        x.snapshot(0);
        x.send(0, 3, 4);
        x.destroy(0, 4);
        x.receive(0);
        Check.due("P17 the HIDDEN TREE's, too", x.block(0, 6, 2), 5);
        x.crash(0);
        Check.due("P17 not after a crash", x.block(0, 6, 2), 4);
    }

    private static void pointer() {
        Volumes x = used();
        Check.due("P18 of level 3", x.pointer(0, 6, 0, 0), 7);
        Check.due("P18 its BIRTH", x.pointer(0, 6, 0, 1), 3);
        Check.due("P18 of level 2", x.pointer(0, 7, 1, 0), 4);
        Check.due("P18 an earlier BIRTH", x.pointer(0, 7, 1, 1), 2);
        Check.due("P18 of level 1", x.pointer(0, 8, 0, 0), 9);
        Check.due("P18 a HOLE", x.pointer(0, 8, 7, 0), NONE);
        Check.due("P18 its BIRTH 0", x.pointer(0, 8, 7, 1), 0);
        for (int what = 0; what < 2; what++) {
            Check.due("P18 POINTER -1", x.pointer(0, 6, -1, what), NONE);
            Check.due("P18 POINTER 8", x.pointer(0, 6, 8, what), NONE);
            Check.due("P18 a DATA block", x.pointer(0, 9, 0, what), NONE);
            Check.due("P18 a FREE block", x.pointer(0, 10, 0, what), NONE);
            Check.due("P18 block -1", x.pointer(0, -1, 0, what), NONE);
            Check.due("P18 block 100", x.pointer(0, 100, 0, what), NONE);
            Check.due("P18 volume 2", x.pointer(2, 6, 0, what), NONE);
            Check.due("P18 volume -1", x.pointer(-1, 6, 0, what), NONE);
            for (int far : FAR) {
                Check.due("P18 volume " + far, x.pointer(far, 6, 0, what), NONE);
                Check.due("P18 block " + far, x.pointer(0, far, 0, what), NONE);
                Check.due("P18 POINTER " + far, x.pointer(0, 6, far, what), NONE);
                Check.due("P18 what " + far, x.pointer(0, 6, 0, far), NONE);
            }
        }
        Check.due("P18 what -1", x.pointer(0, 6, 0, -1), NONE);
        Check.due("P18 what 2", x.pointer(0, 6, 0, 2), NONE);
        x.destroy(0, 1);
        Check.due("P18 a block that is FREE again", x.pointer(0, 1, 1, 0), NONE);
        Check.due("P18 and its BIRTH", x.pointer(0, 1, 1, 1), NONE);
    }

    private static void data() {
        Volumes x = used();
        Check.due("P19 a DATA block", x.data(0, 3), -7);
        Check.due("P19 another", x.data(0, 9), 6);
        Check.due("P19 an INNER block", x.data(0, 8), 0);
        Check.due("P19 a FREE block", x.data(0, 10), 0);
        Check.due("P19 block -1", x.data(0, -1), 0);
        Check.due("P19 block 100", x.data(0, 100), 0);
        Check.due("P19 volume 2", x.data(2, 3), 0);
        Check.due("P19 volume -1", x.data(-1, 3), 0);
        for (int far : FAR) {
            Check.due("P19 block " + far, x.data(0, far), 0);
            Check.due("P19 volume " + far, x.data(far, 3), 0);
        }
        x.destroy(0, 1);
        Check.due("P19 a block that is FREE again", x.data(0, 3), 0);
        x.format(0, 100);
        x.write(0, 0, 9);
        x.write(0, 1, 9);
        x.clear(0, 0);
        x.write(0, 64, 9);
        Check.due("P19 a block that has another level now", x.block(0, 3, 0), 2);
        Check.due("P19 it has no long", x.data(0, 3), 0);
        Check.due("P19 the new DATA block", x.data(0, 6), 9);
        x.format(0, 4);
        x.write(0, 0, 1);
        Check.due("P19 no block 5 any more", x.data(0, 5), 0);
    }

    private static void look() {
        Volumes x = used();
        int[] due = {100, 90, 4, 3, 0, 6, 3, NONE, 0};
        for (int what = 0; what < due.length; what++) {
            Check.due("P20 look(0, " + what + ")", x.look(0, what), due[what]);
            Check.due("P20 no volume -1", x.look(-1, what), NONE);
            Check.due("P20 no volume 2", x.look(2, what), NONE);
            for (int far : FAR) {
                Check.due("P20 volume " + far, x.look(far, what), NONE);
                Check.due("P20 what " + far, x.look(0, far), NONE);
            }
        }
        Check.due("P20 what -1", x.look(0, -1), NONE);
        Check.due("P20 what 9", x.look(0, 9), NONE);
        x.send(0, NONE, 2);
        x.receive(1);
        x.step(1, 1);
        int[] busy = {100, 96, 1, 0, 1, NONE, 0, 0, 1};
        for (int what = 0; what < busy.length; what++) {
            Check.due("P20 BUSY: look(1, " + what + ")", x.look(1, what), busy[what]);
        }
        x.patch(0, 9);
        x.crash(1);
        Check.due("P20 a receive() that is BAD", x.receive(1), TwinVolumes.BAD);
        Check.due("P20 received since the latest that was DONE", x.look(1, 8), 1);
        x.patch(0, 1);
        x.receive(1);
        Check.due("P20 none since then", x.look(1, 8), 0);
        x.step(1, 9);
        Check.due("P20 three with END", x.look(1, 8), 3);
        Check.due("P20 volume 0 received none", x.look(0, 8), 0);
    }
}
