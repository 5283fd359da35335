/** The document's Terms, part 1, sentence by sentence: above each method stands the sentence that it is of. */
public final class TermsVolumeTest {
    private static final int NONE = TwinVolumes.NONE;
    private static final int DONE = TwinVolumes.DONE;
    private static final int FULL = TwinVolumes.FULL;

    public static void main(String[] args) {
        callsUpToThe512th();
        volumesHaveBlocksFromZeroOn();
        lastOfSixHundredAsInner();
        blockZeroAsData();
        levelsAndPointers();
        treeIsABlockOfLevelThreeOrAHole();
        places();
        wayToEachPlace();
        zeroAtAHole();
        generationOneAndHoleOfBirthZero();
        snapshotsInTheirOrderAtMostTwenty();
        snapshotHasTreeGenerationAndMark();
        marksOfBothVolumesTogether();
        generationsAboveAByte();
        freeWhenTheCallIsDone();
        freeWhenAReceivingEnds();
        notFreeBeforeTheCallIsDone();
        freeAfterEachRecord();
        writingRenewsOldBirths();
        writingTakesTheLeastFree();
        writingCopiesPointers();
        writingBelowHolesKeepsTheirBirth();
        writingPutsTheLong();
        clearingAHoleDoesNothing();
        clearingRenewsThree();
        clearingMakesAHoleOfBirthG();
        clearingTakesBlocksOfHolesAway();
        fullIfMoreAreWanted();
        clearingFullIfMoreAreWanted();
        Check.end("TermsVolumeTest");
    }

    private static Volumes volume(int blocks, int... written) {
        Volumes x = new Volumes();
        x.format(0, blocks);
        for (int place : written) {
            Check.due("write " + place, x.write(0, place, place + 1), DONE);
        }
        return x;
    }

    private static int top(Volumes x) {
        return x.look(0, 5);
    }

    /** "An object is used for at most 512 calls after it has been made." */
    private static void callsUpToThe512th() {
        TwinVolumes x = new TwinVolumes();
        for (int i = 1; i <= 510; i++) {
            Check.due("call " + i, x.write(0, i % 7, i), DONE);
        }
        Check.due("call 511", x.read(0, NONE, 510 % 7), 510);
        Check.due("call 512", x.look(0, 1), 100 - 10);
    }

    /** "VOLUMES 0 and 1 have BLOCKS, from 0 on." */
    private static void volumesHaveBlocksFromZeroOn() {
        for (int blocks : new int[] {4, 5, 599, 600}) {
            Volumes x = new Volumes();
            for (int v = 0; v < 2; v++) {
                x.format(v, blocks);
                x.write(v, 0, 1);
                Check.due("block 0 is taken first", x.block(v, 0, 0), 3);
                Check.due("the last one of " + blocks, x.block(v, blocks - 1, 2), blocks == 4 ? 1 : 0);
                Check.due("none behind it", x.block(v, blocks, 2), NONE);
                Check.due("none ahead of 0", x.block(v, -1, 2), NONE);
                Check.due("how many are FREE", x.look(v, 1), blocks - 4);
            }
        }
    }

    /** The last of 600 BLOCKS has its own eight POINTERS, apart from those of the TREES. */
    private static void lastOfSixHundredAsInner() {
        Volumes x = new Volumes();
        x.format(0, 600);
        // 458 DATA blocks, 58 of level 1, 8 of level 2 and one of level 3; then four for each SNAPSHOT but the last.
        for (int p = 0; p < 458; p++) {
            x.write(0, p, p + 1);
        }
        for (int k = 0; k < 18; k++) {
            x.snapshot(0);
            x.write(0, 0, k);
        }
        x.snapshot(0);
        Check.due("clear takes the last three", x.clear(0, 6), DONE);
        Check.due("none FREE", x.look(0, 1), 0);
        Check.due("the last one is of level 1", x.block(0, 599, 0), 1);
        for (int i = 0; i < 8; i++) {
            int b = x.pointer(0, 599, i, 0);
            Check.due("its POINTER " + i, i == 6 ? b == NONE : x.block(0, b, 0) == 0, true);
        }
        Check.due("PLACE 7", x.data(0, x.pointer(0, 599, 7, 0)), 8);
        Check.due("no HIDDEN TREE", x.look(0, 7), NONE);
        Check.due("LIVE", x.look(0, 5), 597);
        Check.due("SNAPSHOT 0", x.read(0, 0, 6), 7);
    }

    /** "DATA (level 0), which has one long, or INNER (level 1 to 3), which has 8 POINTERS, 0 to 7." */
    private static void levelsAndPointers() {
        Volumes x = volume(8, 511);
        for (int b = 0; b < 4; b++) {
            Check.due("level of block " + b, x.block(0, b, 0), 3 - b);
            boolean inner = b < 3;
            Check.due("POINTER 7 of " + b, x.pointer(0, b, 7, 0), inner ? b + 1 : NONE);
            Check.due("POINTER 0 of " + b, x.pointer(0, b, 0, 1), inner ? 0 : NONE);
            Check.due("no POINTER 8 of " + b, x.pointer(0, b, 8, 1), NONE);
            Check.due("no POINTER -1 of " + b, x.pointer(0, b, -1, 1), NONE);
            Check.due("long of " + b, x.data(0, b), inner ? 0 : 512);
        }
        Check.due("level of a FREE block", x.block(0, 4, 0), NONE);
    }

    /** Block 0 is a block like each other one: it is DATA when it comes so. */
    private static void blockZeroAsData() {
        Volumes x = volume(9, 0);
        x.snapshot(0);
        x.write(0, 0, 2);
        x.destroy(0, 0);
        Check.due("write", x.write(0, 1, 33), DONE);
        Check.due("level of block 0", x.block(0, 0, 0), 0);
        Check.due("data of block 0", x.data(0, 0), 33);
        Check.due("read", x.read(0, NONE, 1), 33);
        Check.due("POINTERS that tell it", x.block(0, 0, 2), 1);
        x.snapshot(0);
        x.send(0, NONE, 0);
        Check.due("it is sent", x.sent(0), 2);
        Check.due("its long", Check.number(x, 25 + 19 + 3, 8), 33);
        Check.due("clear", x.clear(0, 1), DONE);
        Check.due("cleared", x.read(0, NONE, 1), 0);
        Check.due("the SNAPSHOT has it", x.read(0, 0, 1), 33);
    }

    /** "A TREE is a POINTER to a block of level 3, or a HOLE." */
    private static void treeIsABlockOfLevelThreeOrAHole() {
        Volumes x = volume(20, 5);
        Check.due("a block", x.block(0, top(x), 0), 3);
        x.snapshot(0);
        Check.due("a SNAPSHOT's block", x.block(0, (int) x.snap(0, 0, 2), 0), 3);
        x.clear(0, 5);
        Check.due("a HOLE", top(x), NONE);
        x.snapshot(0);
        Check.due("a SNAPSHOT's HOLE", x.snap(0, 1, 2), NONE);
    }

    /** "It has PLACES 0 to 511." */
    private static void places() {
        Volumes x = volume(20, 0, 511);
        Check.due("PLACE 0", x.read(0, NONE, 0), 1);
        Check.due("PLACE 511", x.read(0, NONE, 511), 512);
        Check.due("clear 0", x.clear(0, 0), DONE);
        Check.due("clear 511", x.clear(0, 511), DONE);
        Check.due("nothing is left", x.look(0, 1), 20);
        for (int place : new int[] {-1, 512, -512, 1023, Integer.MAX_VALUE, Integer.MIN_VALUE}) {
            Check.refused("write " + place, Check.ARGUMENT, x, () -> x.write(0, place, 1));
            Check.refused("clear " + place, Check.ARGUMENT, x, () -> x.clear(0, place));
            Check.refused("read " + place, Check.ARGUMENT, x, () -> x.read(0, NONE, place));
        }
    }

    /** "By POINTER p / 64 of that block, then p / 8 % 8, then p % 8: the long of the DATA block." */
    private static void wayToEachPlace() {
        for (int p = 0; p < 512; p++) {
            Volumes x = volume(4, p);
            int[] way = {p / 64, p / 8 % 8, p % 8};
            for (int b = 0; b < 3; b++) {
                for (int i = 0; i < 8; i++) {
                    Check.due(p + ": POINTER " + i + " of " + b, x.pointer(0, b, i, 0), i == way[b] ? b + 1 : NONE);
                }
            }
            Check.due(p + ": its long", x.data(0, 3), p + 1);
            Check.due(p + ": read", x.read(0, NONE, p), p + 1);
            Check.due(p + ": the next PLACE", x.read(0, NONE, (p + 1) % 512), 0);
        }
    }

    /** "0 if one comes to a HOLE." */
    private static void zeroAtAHole() {
        Volumes x = volume(20, 0);
        Check.due("below level 1", x.read(0, NONE, 7), 0);
        Check.due("below level 2", x.read(0, NONE, 8), 0);
        Check.due("below level 3", x.read(0, NONE, 64), 0);
        Check.due("the TREE", x.read(1, NONE, 0), 0);
        x.snapshot(0);
        x.snapshot(1);
        Check.due("in a SNAPSHOT", x.read(0, 0, 511), 0);
        Check.due("a SNAPSHOT's TREE", x.read(1, 0, 0), 0);
        x.clear(0, 0);
        Check.due("a HOLE that was a block", x.read(0, NONE, 0), 0);
    }

    /** "A GENERATION G, 1 at first, a LIVE TREE, a HOLE with BIRTH 0 at first." */
    private static void generationOneAndHoleOfBirthZero() {
        Volumes x = new Volumes();
        for (int v = 0; v < 2; v++) {
            Check.due("G", x.look(v, 2), 1);
            Check.due("a HOLE", x.look(v, 5), NONE);
            Check.due("BIRTH 0", x.look(v, 6), 0);
            x.snapshot(v);
            Check.due("BIRTH 0 of a SNAPSHOT's", x.snap(v, 0, 3), 0);
        }
    }

    /** "SNAPSHOTS, 0, 1, .. in the order in which they were made (at most 20)." */
    private static void snapshotsInTheirOrderAtMostTwenty() {
        Volumes x = volume(100);
        for (int k = 0; k < 20; k++) {
            x.write(0, 3, 100 + k);
            Check.due("number " + k, x.snapshot(0), k);
            Check.due("how many", x.look(0, 3), k + 1);
        }
        Check.refused("a 21st", Check.UNSUPPORTED, x, () -> x.snapshot(0));
        for (int k = 0; k < 20; k++) {
            Check.due("what SNAPSHOT " + k + " has", x.read(0, k, 3), 100 + k);
        }
        Check.due("the other volume has its own", x.snapshot(1), 0);
        Check.due("one goes", x.destroy(0, 0), 19);
        Check.due("one more then", x.snapshot(0), 19);
        Check.refused("a 21st again", Check.UNSUPPORTED, x, () -> x.snapshot(0));
    }

    /** "A SNAPSHOT has a TREE, the GENERATION in which it was made, and a MARK, a long." */
    private static void snapshotHasTreeGenerationAndMark() {
        Volumes x = volume(20, 9);
        x.snapshot(1);
        x.snapshot(0);
        x.write(0, 9, 77);
        x.destroy(1, 0);
        long[] due = {2, 1, 0, 1};
        for (int what = 0; what < 4; what++) {
            Check.due("snap " + what, x.snap(0, 0, what), due[what]);
        }
        x.send(0, NONE, 0);
        Check.putBegin(x, 0, Long.MIN_VALUE + 5);
        x.receive(1);
        x.step(1, 2);
        Check.due("a MARK that no int is", x.snap(1, 0, 0), Long.MIN_VALUE + 5);
        Check.due("it was made in GENERATION 2", x.snap(1, 0, 1), 2);
    }

    /** "MARKS are given out for both volumes together: 1, 2, 3 and on." */
    private static void marksOfBothVolumesTogether() {
        Volumes x = new Volumes();
        int mark = 1;
        for (int round = 0; round < 12; round++) {
            x.format(0, 4 + round);
            x.format(1, 4 + round);
            for (int i = 0; i < 40; i++) {
                int v = (i + i / 7) % 2;
                if (x.look(v, 3) == 20) {
                    v = 1 - v;
                }
                int k = x.snapshot(v);
                if (round == 0 || round == 6 || i == 39) {
                    Check.due("MARK", x.snap(v, k, 0), mark);
                    Check.due("the next one", x.sent(4), mark + 1);
                }
                mark++;
            }
        }
        Check.due("MARKS given out", x.sent(4), 481);
    }

    /** GENERATIONS and BIRTHS go on as far as 512 calls go. */
    private static void generationsAboveAByte() {
        Volumes x = new Volumes();
        x.write(0, 1, 1);
        for (int k = 0; k < 19; k++) {
            x.snapshot(0);
        }
        for (int i = 0; i < 239; i++) {
            x.snapshot(0);
            x.destroy(0, 19);
        }
        x.write(0, 2, 2);
        x.snapshot(0);
        x.send(0, 18, 19);
        Check.due("G", x.look(0, 2), 260);
        Check.due("BIRTH", x.look(0, 6), 259);
        Check.due("BIRTH in a block", x.pointer(0, top(x), 0, 1), 259);
        Check.due("BIRTH of a block", x.block(0, top(x), 1), 259);
        Check.due("an old BIRTH", x.pointer(0, x.pointer(0, x.pointer(0, top(x), 0, 0), 0, 0), 1, 1), 1);
        Check.due("GENERATION of the SNAPSHOT", x.snap(0, 19, 1), 259);
        Check.due("only PLACE 2 is sent", x.sent(3), 25 + 19 + 13);
        Check.due("MARK of the base", Check.number(x, 1, 8), 19);
        Check.due("MARK of the target", Check.number(x, 9, 8), 259);
    }

    /** "Blocks that one comes to from none of a volume's LIVE TREE, SNAPSHOTS and HIDDEN TREE are FREE." */
    private static void freeWhenTheCallIsDone() {
        Volumes x = volume(50, 0, 1);
        x.snapshot(0);
        x.write(0, 0, 9);
        x.write(0, 0, 10);
        Check.due("the SNAPSHOT's stay", x.look(0, 1), 50 - 5 - 4);
        x.rollback(0);
        Check.due("after rollback", x.look(0, 1), 50 - 5);
        x.write(0, 0, 9);
        x.clear(0, 0);
        Check.due("after clear", x.look(0, 1), 50 - 5 - 3);
        x.destroy(0, 0);
        Check.due("after destroy: what LIVE has stays", x.look(0, 1), 50 - 4);
        Check.due("that of PLACE 1", x.read(0, NONE, 1), 2);
        x.clear(0, 1);
        Check.due("none is left", x.look(0, 1), 50);
        for (int b = 0; b < 9; b++) {
            Check.due("FREE " + b, x.block(0, b, 0), NONE);
        }
    }

    /** The same of a HIDDEN TREE, and of format(). */
    private static void freeWhenAReceivingEnds() {
        Volumes x = volume(50, 3);
        x.snapshot(0);
        x.send(0, NONE, 0);
        x.receive(1);
        x.step(1, 1);
        Check.due("the HIDDEN TREE's stay", x.look(1, 1), 96);
        x.crash(1);
        Check.due("after crash", x.look(1, 1), 100);
        x.cut(25 + 19);
        x.receive(1);
        Check.due("no END", x.step(1, 2), TwinVolumes.BAD);
        Check.due("after a BAD RECORD", x.look(1, 1), 100);
        x.write(1, 3, 4);
        x.write(1, 64, 5);
        x.format(1, 100);
        Check.due("after format", x.look(1, 1), 100);
        Check.due("the other volume has its own", x.look(0, 1), 46);
    }

    /** ".. as soon as the call is done": not before. */
    private static void notFreeBeforeTheCallIsDone() {
        Volumes x = volume(7, 0);
        x.snapshot(0);
        x.destroy(0, 0);
        Check.due("four wanted, three FREE, four would be", x.write(0, 0, 5), FULL);
        Volumes y = volume(8, 0);
        y.snapshot(0);
        y.destroy(0, 0);
        Check.due("four FREE", y.write(0, 0, 5), DONE);
        Check.due("the old ones are not taken", top(y), 4);
        Check.due("but FREE then", y.look(0, 1), 4);
        Check.due("block 0", y.block(0, 0, 0), NONE);
    }

    /** "(of step(): each RECORD)": what the first RECORD makes FREE the second one takes, in the same step(). */
    private static void freeAfterEachRecord() {
        for (int blocks = 10; blocks <= 12; blocks++) {
            Volumes x = volume(30, 0, 64);
            x.snapshot(0);
            x.send(0, NONE, 0);
            x.format(1, blocks);
            x.receive(1);
            x.step(1, 3);
            x.clear(0, 0);
            x.write(0, 64, 9);
            x.snapshot(0);
            Check.due("a CLEAR, a WRITE", x.send(0, 0, 1), 25 + 13 + 19 + 13);
            Check.due("the CLEAR is first", x.stream(25), 3);
            x.receive(1);
            Check.due("of " + blocks + " blocks", x.step(1, 3), blocks == 10 ? FULL : DONE);
            Check.due("FREE then", x.look(1, 1), blocks == 10 ? 3 : blocks - 11);
        }
    }

    /** "Each that is a HOLE or has another BIRTH than G gets a new block." */
    private static void writingRenewsOldBirths() {
        int[] places = {0, 0, 1, 8, 64};
        int[] wanted = {0, 0, 1, 2, 3};
        for (int i = 0; i < places.length; i++) {
            Volumes x = volume(100, 0);
            int before = x.look(0, 1);
            x.write(0, places[i], 99);
            Check.due("of BIRTH G or HOLES, PLACE " + places[i], before - x.look(0, 1), wanted[i]);
        }
        int[] old = {4, 1, 2, 3};
        int[] way = {0, 1, 8, 64};
        for (int i = 0; i < way.length; i++) {
            Volumes x = volume(100, 0, 1, 8, 64);
            x.snapshot(0);
            int before = x.look(0, 1);
            x.write(0, 0, 98);
            x.write(0, way[i], 99);
            Check.due("of another BIRTH, PLACE " + way[i], before - x.look(0, 1), 4 + (i == 0 ? 0 : old[i]));
            Check.due("the SNAPSHOT stays", x.read(0, 0, way[i]), way[i] + 1);
        }
    }

    /** "From the TREE's on, the FREE one with the least number, and the BIRTH G." */
    private static void writingTakesTheLeastFree() {
        Volumes x = volume(100, 0, 1, 2, 3);
        x.clear(0, 2);
        x.clear(0, 1);
        x.snapshot(0);
        x.write(0, 0, 50);
        int[] numbers = {4, 5, 7, 8};
        int b = top(x);
        for (int level = 3; level >= 0; level--) {
            Check.due("number of level " + level, b, numbers[3 - level]);
            Check.due("its level", x.block(0, b, 0), level);
            Check.due("its BIRTH", x.block(0, b, 1), 2);
            b = level > 0 ? x.pointer(0, b, 0, 0) : b;
        }
        Check.due("the TREE's BIRTH", x.look(0, 6), 2);
        Volumes y = volume(8, 0, 1, 2, 3, 4);
        Check.due("none FREE", y.write(0, 5, 5), FULL);
        y.clear(0, 0);
        y.write(0, 5, 6);
        Check.due("the only FREE one", y.data(0, 3), 6);
    }

    /** "A block with the same POINTERS as before." */
    private static void writingCopiesPointers() {
        Volumes x = volume(100, 0, 1, 8, 64);
        x.snapshot(0);
        x.clear(0, 8);
        x.snapshot(0);
        int old = top(x);
        int oldTwo = x.pointer(0, old, 0, 0);
        int oldOne = x.pointer(0, oldTwo, 0, 0);
        x.write(0, 0, 9);
        int[] olds = {old, oldTwo, oldOne};
        int b = top(x);
        for (int each : olds) {
            Check.due("another block", b != each, true);
            for (int i = 1; i < 8; i++) {
                Check.due("POINTER " + i + " tells the same", x.pointer(0, b, i, 0), x.pointer(0, each, i, 0));
                Check.due("POINTER " + i + " has the same BIRTH", x.pointer(0, b, i, 1), x.pointer(0, each, i, 1));
            }
            Check.due("POINTER 0 has BIRTH G", x.pointer(0, b, 0, 1), 3);
            b = x.pointer(0, b, 0, 0);
        }
        Check.due("one of them is a HOLE of BIRTH 2", x.pointer(0, x.pointer(0, top(x), 0, 0), 1, 1), 2);
    }

    /** "Or, of a HOLE, with 8 HOLES of its BIRTH." */
    private static void writingBelowHolesKeepsTheirBirth() {
        int[] places = {0, 64, 8};
        for (int level = 3; level > 0; level--) {
            int place = places[3 - level];
            Volumes x = level == 3 ? volume(100, 0) : volume(100, 0, place);
            x.snapshot(0);
            x.clear(0, place);
            x.snapshot(0);
            x.write(0, place, 7);
            int b = top(x);
            int[] way = {place / 64, place / 8 % 8, place % 8};
            for (int at = 3; at > 0; at--) {
                for (int i = 0; i < 8; i++) {
                    int due = i == way[3 - at] ? 3 : at <= level ? 2 : i == 0 ? 1 : 0;
                    Check.due("a HOLE of level " + level + ", at " + at + ", POINTER " + i, x.pointer(0, b, i, 1), due);
                }
                b = x.pointer(0, b, way[3 - at], 0);
            }
            Check.due("the long", x.data(0, b), 7);
        }
    }

    /** "The DATA block has v then." */
    private static void writingPutsTheLong() {
        long[] longs = {Long.MIN_VALUE, -1, 0, 1, 1L << 32, Long.MAX_VALUE};
        Volumes x = volume(100);
        for (long v : longs) {
            Check.due("write " + v, x.write(0, 5, v), DONE);
            Check.due("data", x.data(0, 3), v);
            Check.due("read", x.read(0, NONE, 5), v);
        }
        Check.due("0 is no HOLE", x.write(0, 6, 0), DONE);
        Check.due("0 has a block", x.look(0, 1), 95);
    }

    /** "If one comes to a HOLE on the way, nothing is done." */
    private static void clearingAHoleDoesNothing() {
        Volumes empty = volume(4);
        String before = Check.whole(empty);
        Check.due("the TREE", empty.clear(0, 0), DONE);
        Check.due("the TREE: nothing", Check.whole(empty), before);
        Volumes x = volume(4, 0);
        Check.due("none FREE", x.look(0, 1), 0);
        for (int generation = 1; generation <= 2; generation++) {
            before = Check.whole(x);
            for (int place : new int[] {1, 7, 8, 63, 64, 511}) {
                Check.due("clear " + place, x.clear(0, place), DONE);
                Check.due("clear " + place + ": nothing, also no BIRTH", Check.whole(x), before);
            }
            x.snapshot(0);
        }
    }

    /** "Else the first three POINTERS on the way get new blocks as in WRITING." */
    private static void clearingRenewsThree() {
        Volumes x = volume(100, 0, 1, 8, 64);
        x.snapshot(0);
        int before = x.look(0, 1);
        x.clear(0, 0);
        Check.due("three", before - x.look(0, 1), 3);
        int b = top(x);
        for (int level = 3; level > 0; level--) {
            Check.due("number of level " + level, b, 10 + 3 - level);
            Check.due("its BIRTH", x.block(0, b, 1), 2);
            Check.due("the next POINTER is as before", x.pointer(0, b, 1, 1), 1);
            b = x.pointer(0, b, 0, 0);
        }
        Check.due("the SNAPSHOT stays", x.read(0, 0, 0), 1);
        Check.due("the neighbour stays", x.read(0, NONE, 1), 2);
    }

    /** "Then the POINTER to the DATA block is a HOLE with BIRTH G." */
    private static void clearingMakesAHoleOfBirthG() {
        Volumes x = volume(100, 0, 1);
        x.clear(0, 0);
        Check.due("a HOLE", x.pointer(0, 2, 0, 0), NONE);
        Check.due("BIRTH 1", x.pointer(0, 2, 0, 1), 1);
        Check.due("a HOLE that was none before has BIRTH 0", x.pointer(0, 2, 2, 1), 0);
        x.write(0, 0, 1);
        x.snapshot(0);
        x.clear(0, 0);
        int b = x.pointer(0, x.pointer(0, top(x), 0, 0), 0, 0);
        Check.due("BIRTH 2", x.pointer(0, b, 0, 1), 2);
        Check.due("the block's own POINTER has BIRTH 2", x.block(0, b, 1), 2);
    }

    /** "And, from below, so is each of the POINTERS on the way to a block that has nothing but HOLES." */
    private static void clearingTakesBlocksOfHolesAway() {
        int[] neighbours = {1, 7, 8, 56, 64, 448};
        for (int neighbour : neighbours) {
            Volumes x = volume(100, 0, neighbour);
            x.snapshot(0);
            x.clear(0, 0);
            int b = top(x);
            int deep = neighbour < 8 ? 1 : neighbour < 64 ? 2 : 3;
            for (int level = 3; level > deep; level--) {
                b = x.pointer(0, b, 0, 0);
            }
            Check.due(neighbour + ": a HOLE", x.pointer(0, b, 0, 0), NONE);
            Check.due(neighbour + ": of BIRTH G", x.pointer(0, b, 0, 1), 2);
            Check.due(neighbour + ": stays", x.read(0, NONE, neighbour), neighbour + 1);
            Check.due(neighbour + ": what is not taken away", x.look(0, 1), 100 - 4 - deep - (4 - deep));
        }
        Volumes x = volume(100, 511);
        x.snapshot(0);
        x.clear(0, 511);
        Check.due("the TREE is a HOLE", top(x), NONE);
        Check.due("of BIRTH G", x.look(0, 6), 2);
        Check.due("nothing is left of it", x.look(0, 1), 96);
        Check.due("the SNAPSHOT stays", x.read(0, 0, 511), 512);
    }

    /** WRITING a PLACE in a volume with so many FREE blocks as are wanted, and with one less. */
    private static void fits(String what, int used, int wanted, boolean copy, int place, int... written) {
        for (int less = 0; less < 2; less++) {
            Volumes x = volume(used + wanted - less, written);
            if (copy) {
                x.snapshot(0);
            }
            Check.due(what + ": FREE", x.look(0, 1), wanted - less);
            String before = Check.whole(x);
            Check.due(what + ": with " + (wanted - less), x.write(0, place, 70), less == 0 ? DONE : FULL);
            if (less == 1) {
                Check.due(what + ": nothing is done", Check.whole(x), before);
            }
            Check.due(what + ": FREE then", x.look(0, 1), less == 0 ? 0 : wanted - 1);
        }
    }

    /** "It is FULL, and nothing is done, if more new blocks are wanted for one PLACE than there are FREE ones." */
    private static void fullIfMoreAreWanted() {
        fits("one HOLE", 4, 1, false, 1, 0);
        fits("two HOLES", 4, 2, false, 8, 0);
        fits("three HOLES", 4, 3, false, 64, 0);
        fits("four old BIRTHS", 4, 4, true, 0, 0);
        fits("three old BIRTHS and a HOLE", 4, 4, true, 1, 0);
        fits("an old BIRTH and three HOLES", 4, 4, true, 64, 0);
        Volumes x = volume(4);
        Check.due("four HOLES, the least volume", x.write(0, 9, 9), DONE);
        Check.due("none wanted, none FREE", x.write(0, 9, 10), DONE);
        Check.due("it was written", x.read(0, NONE, 9), 10);
    }

    /** The same of CLEARING, for which three at most are wanted. */
    private static void clearingFullIfMoreAreWanted() {
        for (int less = 0; less < 2; less++) {
            int due = less == 0 ? DONE : FULL;
            Volumes three = volume(7 - less, 0);
            three.snapshot(0);
            clears("three", three, 0, due);
            Volumes two = volume(13 - less, 0, 64);
            two.snapshot(0);
            two.write(0, 0, 5);
            clears("two", two, 64, due);
            Volumes one = volume(11 - less, 0, 8);
            one.snapshot(0);
            one.write(0, 0, 5);
            clears("one", one, 8, due);
        }
        Volumes none = volume(9, 0, 1);
        none.snapshot(0);
        none.write(0, 0, 5);
        Check.due("none FREE", none.look(0, 1), 0);
        clears("none", none, 1, DONE);
    }

    private static void clears(String wanted, Volumes x, int place, int due) {
        String before = Check.whole(x);
        Check.due("clear, " + wanted + " wanted", x.clear(0, place), due);
        Check.due("clear, " + wanted + " wanted: read", x.read(0, NONE, place), due == DONE ? 0 : place + 1);
        if (due == FULL) {
            Check.due("clear, " + wanted + " wanted: nothing is done", Check.whole(x), before);
        }
    }
}
