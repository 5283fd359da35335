import java.util.ArrayList;
import java.util.List;
import java.util.function.Function;

/**
 * A TwinVolumes for tests that ask much: the document promises nothing behind an object's 512th call, so there a new
 * object takes over, on which the calls that change something are made again (and must answer as they did).
 */
public final class Volumes {
    static final int MOST_CALLS = 512;

    private record Change(Function<TwinVolumes, Object> call, String answer) {
    }

    private final List<Change> changes = new ArrayList<>();
    private TwinVolumes own = new TwinVolumes();
    private int calls = 0;

    /** How many calls that change something it can still take. */
    int left() {
        return MOST_CALLS - 1 - changes.size();
    }

    private TwinVolumes next() {
        if (calls == MOST_CALLS) {
            startAgain();
        }
        calls++;
        return own;
    }

    private void startAgain() {
        own = new TwinVolumes();
        calls = changes.size();
        if (calls >= MOST_CALLS) {
            throw new AssertionError("a test changes one object by more calls than the document promises");
        }
        for (int i = 0; i < calls; i++) {
            Change change = changes.get(i);
            String answer = answer(change.call, own);
            if (!answer.equals(change.answer)) {
                Check.due("call " + (i + 1) + " of the same calls on a new object", answer, change.answer);
            }
        }
    }

    private static String answer(Function<TwinVolumes, Object> call, TwinVolumes x) {
        try {
            return String.valueOf(call.apply(x));
        } catch (RuntimeException e) {
            return e.getClass().getName();
        }
    }

    private Object change(Function<TwinVolumes, Object> call) {
        TwinVolumes x = next();
        try {
            Object answer = call.apply(x);
            changes.add(new Change(call, String.valueOf(answer)));
            return answer;
        } catch (RuntimeException e) {
            changes.add(new Change(call, e.getClass().getName()));
            throw e;
        }
    }

    public void format(int volume, int blocks) {
        change(x -> {
            x.format(volume, blocks);
            return 0;
        });
    }

    public int write(int volume, int place, long v) {
        return (Integer) change(x -> x.write(volume, place, v));
    }

    public int clear(int volume, int place) {
        return (Integer) change(x -> x.clear(volume, place));
    }

    public long read(int volume, int k, int place) {
        return next().read(volume, k, place);
    }

    public int snapshot(int volume) {
        return (Integer) change(x -> x.snapshot(volume));
    }

    public int destroy(int volume, int k) {
        return (Integer) change(x -> x.destroy(volume, k));
    }

    public int rollback(int volume) {
        return (Integer) change(x -> x.rollback(volume));
    }

    public int send(int volume, int base, int target) {
        return (Integer) change(x -> x.send(volume, base, target));
    }

    public int receive(int volume) {
        return (Integer) change(x -> x.receive(volume));
    }

    public int step(int volume, int n) {
        return (Integer) change(x -> x.step(volume, n));
    }

    public boolean crash(int volume) {
        return (Boolean) change(x -> x.crash(volume));
    }

    public int stream(int i) {
        return next().stream(i);
    }

    public int patch(int i, int v) {
        return (Integer) change(x -> x.patch(i, v));
    }

    public void cut(int n) {
        change(x -> {
            x.cut(n);
            return 0;
        });
    }

    public long snap(int volume, int k, int what) {
        return next().snap(volume, k, what);
    }

    public int block(int volume, int b, int what) {
        return next().block(volume, b, what);
    }

    public int pointer(int volume, int b, int i, int what) {
        return next().pointer(volume, b, i, what);
    }

    public long data(int volume, int b) {
        return next().data(volume, b);
    }

    public int look(int volume, int what) {
        return next().look(volume, what);
    }

    public int sent(int what) {
        return next().sent(what);
    }
}
