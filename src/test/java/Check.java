import java.util.NoSuchElementException;

/** Counts what was checked, tells what was not as due, and helps to change RECORDS of a STREAM. */
final class Check {
    static final Class<? extends RuntimeException> ARGUMENT = IllegalArgumentException.class;
    static final Class<? extends RuntimeException> STATE = IllegalStateException.class;
    static final Class<? extends RuntimeException> MISSING = NoSuchElementException.class;
    static final Class<? extends RuntimeException> UNSUPPORTED = UnsupportedOperationException.class;

    private static int checks = 0;
    private static int wrong = 0;

    private Check() {
    }

    static void due(String what, long got, long want) {
        checks++;
        if (got != want) {
            wrong++;
            System.out.println(what + " answered " + got + ", due is " + want);
        }
    }

    static void due(String what, boolean got, boolean want) {
        due(what, got ? 1 : 0, want ? 1 : 0);
    }

    static void due(String what, String got, String want) {
        checks++;
        if (!got.equals(want)) {
            wrong++;
            System.out.println(what + " answered " + got + ", due is " + want);
        }
    }

    static void thrown(String what, Class<? extends RuntimeException> want, Runnable call) {
        String got = "nothing";
        try {
            call.run();
        } catch (RuntimeException e) {
            got = e.getClass().getName();
        }
        due(what + ", thrown:", got, want.getName());
    }

    /** A call that throws as due, and changes nothing. */
    static void refused(String what, Class<? extends RuntimeException> want, Volumes x, Runnable call) {
        String before = whole(x);
        thrown(what, want, call);
        due(what + ", refused: all", whole(x), before);
    }

    static int wrong() {
        return wrong;
    }

    static void end(String test) {
        System.out.println(test + ": " + checks + " checks, " + wrong + " not as due");
        if (wrong > 0 || checks == 0) {
            System.exit(1);
        }
    }

    /** All that a volume answers without being changed, in one text. */
    static String all(Volumes x, int volume) {
        StringBuilder s = new StringBuilder();
        for (int what = 0; what <= 8; what++) {
            s.append(x.look(volume, what)).append(' ');
        }
        for (int k = 0; k < x.look(volume, 3); k++) {
            for (int what = 0; what <= 3; what++) {
                s.append(x.snap(volume, k, what)).append(' ');
            }
        }
        for (int b = 0; b < x.look(volume, 0); b++) {
            for (int what = 0; what <= 2; what++) {
                s.append(x.block(volume, b, what)).append(' ');
            }
            s.append(x.data(volume, b)).append(' ');
            for (int i = 0; i < 16; i++) {
                s.append(x.pointer(volume, b, i / 2, i % 2)).append(' ');
            }
        }
        return s.toString();
    }

    /** The STREAM and what is told of the latest send, in one text. */
    static String all(Volumes x) {
        StringBuilder s = new StringBuilder();
        for (int i = 0; i < x.sent(3); i++) {
            s.append(x.stream(i)).append(' ');
        }
        for (int what = 0; what <= 4; what++) {
            s.append(x.sent(what)).append(' ');
        }
        return s.toString();
    }

    /** All that an object answers without being changed, in one text. */
    static String whole(Volumes x) {
        return all(x, 0) + all(x, 1) + all(x);
    }

    /** The number of so many bytes that stands from a byte of the STREAM on. */
    static long number(Volumes x, int from, int size) {
        long n = 0;
        for (int i = 0; i < size; i++) {
            n = n * 256 + x.stream(from + i);
        }
        return n;
    }

    static void putNumber(Volumes x, int from, int size, long n) {
        for (int i = 0; i < size; i++) {
            x.patch(from + i, (int) (n >> (8 * (size - 1 - i))));
        }
    }

    /** Puts the SUM behind the bytes of a RECORD that are ahead of it. */
    static void putSum(Volumes x, int from, int size) {
        long a = 1;
        long b = 0;
        for (int i = 0; i < size; i++) {
            a = (a + x.stream(from + i)) % (1L << 32);
            b = (b + a) % (1L << 32);
        }
        putNumber(x, from + size, 4, b);
        putNumber(x, from + size + 4, 4, a);
    }

    static void putBegin(Volumes x, long baseMark, long targetMark) {
        x.patch(0, 1);
        putNumber(x, 1, 8, baseMark);
        putNumber(x, 9, 8, targetMark);
        putSum(x, 0, 17);
    }

    static void putWrite(Volumes x, int from, int place, long v) {
        x.patch(from, 2);
        putNumber(x, from + 1, 2, place);
        putNumber(x, from + 3, 8, v);
        putSum(x, from, 11);
    }

    static void putClear(Volumes x, int from, int place, int places) {
        x.patch(from, 3);
        putNumber(x, from + 1, 2, place);
        putNumber(x, from + 3, 2, places);
        putSum(x, from, 5);
    }

    static void putEnd(Volumes x, int from, long records) {
        x.patch(from, 4);
        putNumber(x, from + 1, 4, records);
        putSum(x, from, 5);
    }
}
