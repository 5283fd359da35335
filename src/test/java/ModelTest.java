import java.lang.reflect.InvocationTargetException;
import java.lang.reflect.Method;
import java.util.ArrayList;
import java.util.HashMap;
import java.util.List;
import java.util.Map;
import java.util.Random;

/** Runs of calls made up from fixed seeds: each call of TwinVolumes answers as the Model does, and leaves the same. */
public final class ModelTest {
    private static final int RUNS = 900;
    private static final int MOST_CALLS = 400;
    private static final int[] WHATS = {-1, 0, 1, 2, 3, 4, 5, 6, 7, 8, 9};
    private static final int[] ODD = {-1, -2, 512, 601, Integer.MAX_VALUE, Integer.MIN_VALUE, 20, 2, 8, 0, 1, 3};

    private static final Map<String, Method> OWN = methods(Volumes.class);
    private static final Map<String, Method> MODEL = methods(Model.class);
    private static final Map<String, Integer> ANSWERS = new HashMap<>();

    private final Random random;
    private final Volumes own = new Volumes();
    private final Model model = new Model();
    private final List<String> told = new ArrayList<>();
    private final int places;
    private int calls = 0;
    private boolean same = true;

    private ModelTest(int seed) {
        random = new Random(seed);
        int[] kinds = {2, 10, 70, 512};
        places = kinds[seed % kinds.length];
    }

    public static void main(String[] args) {
        for (int seed = 0; seed < RUNS && Check.wrong() == 0; seed++) {
            new ModelTest(seed).run(seed);
        }
        String[] wanted = {
            "write 0", "write 5", "write 6", "clear 0", "clear 5", "clear 6", "receive 0", "receive 1", "receive 2",
            "receive 3", "receive 4", "receive 6", "step 0", "step 1", "step 5", "step 7", "crash true", "crash false",
            "snapshot UnsupportedOperationException", "snapshot IllegalStateException",
        };
        for (String answer : wanted) {
            Check.due("the runs come to " + answer, ANSWERS.getOrDefault(answer, 0) > 20, true);
        }
        Check.end("ModelTest");
    }

    private static Map<String, Method> methods(Class<?> c) {
        Map<String, Method> methods = new HashMap<>();
        for (Method m : c.getDeclaredMethods()) {
            if (m.getModifiers() == java.lang.reflect.Modifier.PUBLIC) {
                methods.put(m.getName(), m);
            }
        }
        return methods;
    }

    private void run(int seed) {
        if (random.nextBoolean()) {
            call("format", 0, 4 + random.nextInt(40));
            call("format", 1, 4 + random.nextInt(40));
        } else if (places == 512) {
            call("format", 0, 600);
            call("format", 1, 600);
        }
        for (int i = 0; i < MOST_CALLS && mayCall(); i++) {
            act();
            if (same && (i % 32 == 0 || seed % 64 == 1)) {
                lookAtAll();
            }
        }
        if (same) {
            lookAtAll();
        }
        if (!same) {
            System.out.println("seed " + seed + ":");
            told.forEach(System.out::println);
        }
    }

    private boolean mayCall() {
        return same && calls < MOST_CALLS;
    }

    private int pick(int below) {
        return random.nextInt(20) == 0 ? ODD[random.nextInt(ODD.length)] : random.nextInt(Math.max(below, 1));
    }

    private int volume() {
        return random.nextInt(60) == 0 ? ODD[random.nextInt(ODD.length)] : random.nextInt(2);
    }

    private long number() {
        return random.nextInt(4) == 0 ? random.nextLong() : random.nextInt(5);
    }

    private void act() {
        int v = volume();
        int snapshots = own.look(v, 3);
        switch (random.nextInt(22)) {
            case 0, 1, 2, 3, 4, 5 -> call("write", v, pick(places), number());
            case 6, 7, 8 -> call("clear", v, pick(places));
            case 9, 10 -> call("snapshot", v);
            case 11 -> call("destroy", v, pick(snapshots));
            case 12 -> call("rollback", v);
            case 13, 14, 15 -> sendAndReceive(v);
            case 16 -> call("send", v, pick(snapshots + 1) - 1, pick(snapshots));
            case 17 -> call("receive", v);
            case 18 -> call("step", v, pick(5));
            case 19 -> call("crash", v);
            case 20 -> forge();
            default -> rare(v);
        }
    }

    private void rare(int v) {
        switch (random.nextInt(9)) {
            case 0 -> call("format", v, pick(80));
            case 1 -> call("cut", Math.max(0, own.sent(3) - random.nextInt(30)));
            case 2 -> call("cut", pick(own.sent(3) + 2));
            case 3 -> call("patch", pick(own.sent(3) + 1), random.nextInt());
            case 4 -> call("patch", Math.max(0, own.sent(3) - 1 - random.nextInt(60)), random.nextInt());
            case 5 -> manySnapshots(v);
            case 6 -> call("read", v, pick(own.look(v, 3) + 1) - 1, pick(places));
            case 7 -> call("stream", pick(own.sent(3)));
            default -> call("snapshot", v);
        }
    }

    private void manySnapshots(int v) {
        int most = random.nextInt(25);
        for (int i = 0; i < most; i++) {
            if (random.nextInt(3) == 0) {
                call("write", v, pick(places), number());
            }
            call("snapshot", v);
        }
    }

    /** What a person would do: roll back what is dirty, send with the base that the other one has, receive in steps. */
    private void sendAndReceive(int from) {
        int to = from == 0 ? 1 : 0;
        int base = -1;
        int latest = own.look(to, 3) - 1;
        for (int k = 0; k < own.look(from, 3); k++) {
            if (latest >= 0 && own.snap(from, k, 0) == own.snap(to, latest, 0)) {
                base = k;
            }
        }
        if (base == -1 && latest >= 0 && random.nextInt(3) > 0) {
            while (mayCall() && own.look(to, 3) > 0 && own.look(to, 4) == 0) {
                call("destroy", to, 0);
            }
            call("format", to, 4 + random.nextInt(60));
        }
        if (random.nextInt(8) > 0 && own.look(to, 3) > 0) {
            call("rollback", to);
        }
        int left = own.look(from, 3) - base - 1;
        call("send", from, base, base + 1 + random.nextInt(Math.max(left, 1)));
        if (random.nextInt(4) == 0) {
            forge();
        }
        call("receive", to);
        for (int i = 0; i < 6 && own.look(to, 4) == 1 && random.nextInt(8) > 0; i++) {
            call("step", to, random.nextInt(3) == 0 ? 1000 : 1 + random.nextInt(3));
            if (random.nextInt(12) == 0) {
                forge();
            }
        }
    }

    /** Changes a field of a RECORD, and its SUM with it. */
    private void forge() {
        List<Integer> starts = new ArrayList<>();
        int[] sizes = {0, 25, 19, 13, 13};
        for (int at = 0; at < own.sent(3);) {
            int kind = own.stream(at);
            if (kind < 1 || kind > 4 || at + sizes[kind] > own.sent(3)) {
                return;
            }
            starts.add(at);
            at += sizes[kind];
        }
        if (starts.isEmpty()) {
            return;
        }
        int at = starts.get(random.nextInt(3) == 0 ? 0 : random.nextInt(starts.size()));
        int kind = own.stream(at);
        switch (kind) {
            case 1 -> patchNumber(at + 1 + 8 * random.nextInt(2), 8, someMark());
            case 2 -> patchNumber(at + 1, 2, pick(513));
            case 3 -> patchNumber(at + 1 + 2 * random.nextInt(2), 2, pick(513));
            default -> patchNumber(at + 1, 4, pick(starts.size() + 2));
        }
        if (random.nextInt(8) == 0) {
            call("patch", at, random.nextInt(6));
        }
        long a = 1;
        long b = 0;
        for (int i = at; i < at + sizes[kind] - 8; i++) {
            a = a + own.stream(i) & 0xFFFFFFFFL;
            b = b + a & 0xFFFFFFFFL;
        }
        patchNumber(at + sizes[kind] - 8, 8, b << 32 | a);
    }

    private long someMark() {
        int v = random.nextInt(2);
        int snapshots = own.look(v, 3);
        long latest = own.snap(v, snapshots - 1, 0);
        long[] marks = {0, random.nextInt(9), own.snap(v, random.nextInt(20), 0), latest, latest, random.nextLong()};
        return marks[random.nextInt(marks.length)];
    }

    private void patchNumber(int from, int size, long n) {
        for (int i = 0; i < size; i++) {
            int b = (int) (n >> (8 * (size - 1 - i))) & 255;
            if (own.stream(from + i) != b) {
                call("patch", from + i, b);
            }
        }
    }

    private void call(String name, Object... args) {
        if (!mayCall()) {
            return;
        }
        calls++;
        String got = answer(OWN.get(name), own, args);
        String want = answer(MODEL.get(name), model, args);
        ANSWERS.merge(name + " " + want, 1, Integer::sum);
        String line = name + List.of(args);
        told.add(line + ": " + got);
        same = got.equals(want);
        Check.due(line, got, want);
    }

    private static String answer(Method m, Object x, Object... args) {
        try {
            return String.valueOf(m.invoke(x, args));
        } catch (InvocationTargetException e) {
            return e.getCause().getClass().getSimpleName();
        } catch (IllegalAccessException e) {
            throw new IllegalStateException(e);
        }
    }

    private void compare(String what, long got, long want) {
        if (got != want && same) {
            same = false;
            Check.due(what, got, want);
        }
    }

    private void lookAtAll() {
        for (int i = -1; i <= Math.max(own.sent(3), model.sent(3)); i++) {
            compare("stream " + i, own.stream(i), model.stream(i));
        }
        for (int what : WHATS) {
            compare("sent " + what, own.sent(what), model.sent(what));
            for (int v = -1; v <= 2; v++) {
                compare("look " + v + " " + what, own.look(v, what), model.look(v, what));
                for (int k = -1; k <= 20; k++) {
                    compare("snap " + v + " " + k + " " + what, own.snap(v, k, what), model.snap(v, k, what));
                }
            }
        }
        for (int v = 0; v < 2; v++) {
            int blocks = Math.min(model.look(v, 0), 70);
            for (int b = -1; b <= blocks; b++) {
                lookAtBlock(v, b);
            }
            for (int k = -1; k < model.look(v, 3); k++) {
                for (int p = random.nextInt(4); p < places; p += 1 + places / 70) {
                    compare("read " + v + " " + k + " " + p, own.read(v, k, p), model.read(v, k, p));
                }
            }
        }
    }

    private void lookAtBlock(int v, int b) {
        compare("data " + v + " " + b, own.data(v, b), model.data(v, b));
        for (int what = -1; what <= 3; what++) {
            compare("block " + v + " " + b + " " + what, own.block(v, b, what), model.block(v, b, what));
            for (int i = -1; i <= 8; i++) {
                String told = "pointer " + v + " " + b + " " + i + " " + what;
                compare(told, own.pointer(v, b, i, what), model.pointer(v, b, i, what));
            }
        }
    }
}
