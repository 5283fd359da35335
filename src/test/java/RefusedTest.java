/**
 * "A call that throws changes nothing; of two exceptions the one named first is thrown": each call of the face, with
 * arguments around each bound, in states around each bound, throws exactly what and where the document says.
 */
public final class RefusedTest {
    private static final int NONE = TwinVolumes.NONE;
    private static final int MAX = Integer.MAX_VALUE;
    private static final int MIN = Integer.MIN_VALUE;
    private static final int STATES = 5;

    private static final int[] VOLUMES = {MIN, -1, 0, 1, 2, MAX};
    private static final int[] PLACES = {MIN, -1, 0, 511, 512, MAX};
    private static final int[] SNAPSHOTS = {MIN, -2, -1, 0, 1, 2, 19, 20, MAX};
    private static final int[] FEW_SNAPSHOTS = {NONE, 0, MAX};

    private static int thrown = 0;

    /** A call whose answer does not matter here. */
    private interface Call {
        void on(Volumes x);
    }

    public static void main(String[] args) {
        for (int state = 0; state < STATES; state++) {
            Volumes is = make(state);
            for (int v : VOLUMES) {
                boolean volume = v == 0 || v == 1;
                int snapshots = volume ? is.look(v, 3) : 0;
                boolean busy = volume && is.look(v, 4) == 1;
                ofVolumeAlone(state, v, volume, snapshots, busy);
                ofPlaces(state, v, volume, snapshots);
                ofSnapshots(state, v, volume, snapshots, busy);
                ofNumbers(state, v, volume, busy);
            }
            ofTheStream(state, is.sent(3));
        }
        Check.due("many calls throw", thrown > 1000, true);
        Check.end("RefusedTest");
    }

    /** A new object; some SNAPSHOTS; volume 1 BUSY without SNAPSHOTS; 20 SNAPSHOTS; BUSY with 20 SNAPSHOTS. */
    private static Volumes make(int state) {
        Volumes x = new Volumes();
        if (state == 0) {
            return x;
        }
        x.format(0, 14);
        x.format(1, 4);
        x.write(0, 5, 5);
        x.snapshot(0);
        x.write(0, 5, 6);
        x.snapshot(0);
        x.send(0, NONE, 0);
        if (state == 1) {
            x.snapshot(1);
            x.write(1, 9, 9);
            return x;
        }
        x.receive(1);
        x.step(1, state == 2 ? 1 : 2);
        for (int k = 1; k < 20 && state > 2; k++) {
            x.snapshot(1);
            if (k > 1) {
                x.snapshot(0);
            }
        }
        if (state == 4) {
            x.send(0, 18, 19);
            Check.putBegin(x, x.snap(1, 19, 0), 999);
            x.receive(1);
        }
        return x;
    }

    /** The call throws this (nothing, if it is null) and, if so, nothing is changed. */
    private static void due(String what, int state, Class<? extends RuntimeException> want, Call call) {
        String label = what + " in state " + state;
        if (want == null) {
            try {
                call.on(make(state));
                Check.due(label, "nothing thrown", "nothing thrown");
            } catch (RuntimeException e) {
                Check.due(label, e.getClass().getName(), "nothing thrown");
            }
            return;
        }
        thrown++;
        Volumes x = make(state);
        Check.refused(label, want, x, () -> call.on(x));
    }

    private static void ofVolumeAlone(int state, int v, boolean volume, int snapshots, boolean busy) {
        Class<? extends RuntimeException> none = volume ? null : Check.ARGUMENT;
        due("receive(" + v + ")", state, none, x -> x.receive(v));
        due("crash(" + v + ")", state, none, x -> x.crash(v));
        Class<? extends RuntimeException> notBusy = !volume ? Check.ARGUMENT : busy ? Check.STATE : null;
        due("snapshot(" + v + ")", state, notBusy == null && snapshots == 20 ? Check.UNSUPPORTED : notBusy,
                x -> x.snapshot(v));
        due("rollback(" + v + ")", state, notBusy == null && snapshots == 0 ? Check.MISSING : notBusy,
                x -> x.rollback(v));
    }

    private static void ofPlaces(int state, int v, boolean volume, int snapshots) {
        for (int place : PLACES) {
            boolean fits = volume && place >= 0 && place <= 511;
            Class<? extends RuntimeException> want = fits ? null : Check.ARGUMENT;
            due("write(" + v + ", " + place + ")", state, want, x -> x.write(v, place, 7));
            due("clear(" + v + ", " + place + ")", state, want, x -> x.clear(v, place));
            for (int k : fits ? SNAPSHOTS : FEW_SNAPSHOTS) {
                boolean is = k == NONE || k >= 0 && k < snapshots;
                due("read(" + v + ", " + k + ", " + place + ")", state, want == null && !is ? Check.MISSING : want,
                        x -> x.read(v, k, place));
            }
        }
    }

    private static void ofSnapshots(int state, int v, boolean volume, int snapshots, boolean busy) {
        for (int k : SNAPSHOTS) {
            boolean is = k >= 0 && k < snapshots;
            Class<? extends RuntimeException> missing = is ? null : Check.MISSING;
            due("destroy(" + v + ", " + k + ")", state, !volume ? Check.ARGUMENT : busy ? Check.STATE : missing,
                    x -> x.destroy(v, k));
            for (int base : volume ? SNAPSHOTS : FEW_SNAPSHOTS) {
                boolean fits = base == NONE || base >= 0 && base <= k - 1;
                due("send(" + v + ", " + base + ", " + k + ")", state,
                        !volume ? Check.ARGUMENT : !is ? Check.MISSING : fits ? null : Check.STATE,
                        x -> x.send(v, base, k));
            }
        }
    }

    private static void ofNumbers(int state, int v, boolean volume, boolean busy) {
        for (int blocks : new int[] {MIN, -1, 0, 3, 4, 5, 599, 600, 601, MAX}) {
            boolean fits = volume && blocks >= 4 && blocks <= 600;
            due("format(" + v + ", " + blocks + ")", state, fits ? null : Check.ARGUMENT, x -> x.format(v, blocks));
        }
        for (int n : new int[] {MIN, -1, 0, 1, 2, MAX}) {
            due("step(" + v + ", " + n + ")", state, !volume || n < 1 ? Check.ARGUMENT : busy ? null : Check.STATE,
                    x -> x.step(v, n));
        }
    }

    private static void ofTheStream(int state, int length) {
        for (int i : new int[] {MIN, -2, -1, 0, 1, length - 1, length, length + 1, MAX}) {
            boolean is = i >= 0 && i < length;
            due("patch(" + i + ")", state, is ? null : Check.MISSING, x -> x.patch(i, 200));
            boolean fits = i >= 0 && i <= length;
            due("cut(" + i + ")", state, fits ? null : Check.ARGUMENT, x -> x.cut(i));
        }
    }
}
