/** README's example, call by call: what it says there is what the calls answer. */
public final class ReadmeTest {
    public static void main(String[] args) {
        TwinVolumes x = new TwinVolumes();
        Check.due("100 blocks", x.look(0, 0) + x.look(1, 0), 200);
        Check.due("write", x.write(0, 5, 7L), TwinVolumes.DONE);
        int first = x.snapshot(0);
        Check.due("first", first, 0);
        Check.due("write again", x.write(0, 5, 8L), TwinVolumes.DONE);
        int second = x.snapshot(0);
        Check.due("second", second, 1);
        Check.due("the snapshot stays", x.read(0, first, 5), 7);
        Check.due("the LIVE TREE", x.read(0, TwinVolumes.NONE, 5), 8);

        Check.due("send the whole", x.send(0, TwinVolumes.NONE, first), x.sent(3));
        Check.due("receive the whole", x.receive(1), TwinVolumes.DONE);
        Check.due("is BUSY", x.look(1, 4), 1);
        Check.due("step through the whole", x.step(1, 1000), TwinVolumes.DONE);
        Check.due("volume 1 has the snapshot", x.read(1, 0, 5), 7);

        Check.due("send what is new", x.send(0, first, second), x.sent(3));
        Check.due("receive what is new", x.receive(1), TwinVolumes.DONE);
        Check.due("step on the way", x.step(1, 1), TwinVolumes.MORE);
        Check.due("nothing is to be seen yet", x.read(1, TwinVolumes.NONE, 5), 7);
        Check.due("crash", x.crash(1), true);
        Check.due("nothing of it is left", x.read(1, TwinVolumes.NONE, 5), 7);
        Check.due("nor a snapshot", x.look(1, 3), 1);
        Check.end("ReadmeTest");
    }
}
