import java.io.IOException;
import java.lang.reflect.Constructor;
import java.lang.reflect.Field;
import java.lang.reflect.Method;
import java.lang.reflect.Modifier;
import java.nio.file.Files;
import java.nio.file.Path;
import java.util.Arrays;
import java.util.Set;
import java.util.TreeSet;
import java.util.regex.Matcher;
import java.util.regex.Pattern;

/** The document's face, and those rules of ../shared/LANGUAGE.md that can be seen from the class or its text. */
public final class FaceTest {
    private static final String[] METHODS = {
        "boolean crash(int) IllegalArgumentException",
        "int block(int, int, int)",
        "int clear(int, int) IllegalArgumentException",
        "int destroy(int, int) IllegalArgumentException IllegalStateException NoSuchElementException",
        "int look(int, int)",
        "int patch(int, int) NoSuchElementException",
        "int pointer(int, int, int, int)",
        "int receive(int) IllegalArgumentException",
        "int rollback(int) IllegalArgumentException IllegalStateException NoSuchElementException",
        "int send(int, int, int) IllegalArgumentException NoSuchElementException IllegalStateException",
        "int sent(int)",
        "int snapshot(int) IllegalArgumentException IllegalStateException UnsupportedOperationException",
        "int step(int, int) IllegalArgumentException IllegalStateException",
        "int stream(int)",
        "int write(int, int, long) IllegalArgumentException",
        "long data(int, int)",
        "long read(int, int, int) IllegalArgumentException NoSuchElementException",
        "long snap(int, int, int)",
        "void cut(int) IllegalArgumentException",
        "void format(int, int) IllegalArgumentException",
    };
    private static final String[] CONSTANTS = {"NONE", "DONE", "BAD", "BASE", "DIRTY", "HAVE", "FULL", "BUSY", "MORE"};
    private static final String[] NEVER = {
        "finally", "synchronized", "assert", "volatile", "transient", "::", "static {", "Exact(", "hashCode(",
        "System.out", "currentTimeMillis", "nanoTime", "Random", "Thread", "getMessage", "getClass", "NaN",
        "NullPointerException", "ClassCastException", "ArrayIndexOutOfBoundsException", "NegativeArraySizeException",
        "ArrayStoreException", "StackOverflowError", "Throwable", "catch (Exception", "catch (Error",
    };
    private static final Set<String> LIBRARY = Set.of("java.util.ArrayList", "java.util.Arrays", "java.util.Iterator",
            "java.util.List", "java.util.NoSuchElementException");

    public static void main(String[] args) throws IOException {
        constants();
        methods();
        insideClasses();
        text();
        Check.end("FaceTest");
    }

    private static void constants() throws IOException {
        int value = -1;
        for (String name : CONSTANTS) {
            try {
                Field field = TwinVolumes.class.getField(name);
                Check.due(name + "'s type", field.getType().getName(), "int");
                Check.due(name, field.getInt(null), value);
                Check.due(name + " is final", Modifier.isFinal(field.getModifiers()), true);
            } catch (ReflectiveOperationException e) {
                Check.due(name, "missing", "there");
            }
            value++;
        }
    }

    private static void methods() {
        Set<String> due = new TreeSet<>(Arrays.asList(METHODS));
        Set<String> got = new TreeSet<>();
        for (Method m : TwinVolumes.class.getDeclaredMethods()) {
            if (!Modifier.isPrivate(m.getModifiers())) {
                Check.due(m.getName() + " is public", Modifier.isPublic(m.getModifiers()), true);
                got.add(told(m));
            }
        }
        Check.due("methods", got.toString(), due.toString());
        Check.due("constructors", TwinVolumes.class.getDeclaredConstructors().length, 1);
        for (Constructor<?> c : TwinVolumes.class.getDeclaredConstructors()) {
            Check.due("constructor", c.toString(), "public TwinVolumes()");
        }
        Check.due("class", TwinVolumes.class.toGenericString(), "public final class TwinVolumes");
        for (Field f : TwinVolumes.class.getDeclaredFields()) {
            boolean own = Arrays.asList(CONSTANTS).contains(f.getName());
            Check.due(f.getName() + " is private", Modifier.isPrivate(f.getModifiers()), !own);
        }
    }

    private static String told(Method m) {
        StringBuilder s = new StringBuilder();
        s.append(m.getReturnType().getSimpleName()).append(' ').append(m.getName()).append('(');
        for (int i = 0; i < m.getParameterTypes().length; i++) {
            s.append(i == 0 ? "" : ", ").append(m.getParameterTypes()[i].getSimpleName());
        }
        s.append(')');
        for (Class<?> e : m.getExceptionTypes()) {
            s.append(' ').append(e.getSimpleName());
        }
        return s.toString();
    }

    private static void insideClasses() {
        Class<?>[] inside = TwinVolumes.class.getDeclaredClasses();
        Check.due("rule 11: at most twelve classes: " + inside.length, inside.length < 12, true);
        Set<String> face = new TreeSet<>();
        for (Method m : TwinVolumes.class.getMethods()) {
            face.add(m.getName());
        }
        for (Class<?> c : inside) {
            int seen = c.getModifiers() & (Modifier.PUBLIC | Modifier.PROTECTED);
            Check.due("rule 1: " + c.getName() + " is private or package-visible", seen, 0);
            Check.due("rule 1: " + c.getName() + " is static", Modifier.isStatic(c.getModifiers()), true);
            Check.due("rule 11: fields of " + c.getName(), c.getDeclaredFields().length <= 20, true);
            for (Method m : c.getDeclaredMethods()) {
                boolean hidden = Modifier.isPrivate(m.getModifiers()) && face.contains(m.getName());
                Check.due("rule 1: private " + m + " bears no name of the face", hidden, false);
                Check.due("rule 11: parameters of " + m, m.getParameterCount() <= 7, true);
            }
            for (Field f : c.getDeclaredFields()) {
                Check.due("rule 5: " + f + " is no static state", isStaticState(f), false);
            }
        }
        for (Field f : TwinVolumes.class.getDeclaredFields()) {
            Check.due("rule 5: " + f + " is no static state", isStaticState(f), false);
        }
        for (Method m : TwinVolumes.class.getDeclaredMethods()) {
            boolean hidden = Modifier.isPrivate(m.getModifiers()) && face.contains(m.getName());
            Check.due("rule 1: private " + m + " bears no name of the face", hidden, false);
        }
    }

    private static boolean isStaticState(Field f) {
        return Modifier.isStatic(f.getModifiers()) && !Modifier.isFinal(f.getModifiers());
    }

    private static void text() throws IOException {
        String text = Files.readString(Path.of("src/main/java/TwinVolumes.java"));
        String code = text.replaceAll("(?s)/\\*.*?\\*/", "").replaceAll("//[^\n]*", "");
        for (String word : NEVER) {
            String pattern = Character.isLetter(word.charAt(0)) ? "\\b" + Pattern.quote(word) : Pattern.quote(word);
            if (word.matches("[a-z]+")) {
                pattern += "\\b";
            }
            Check.due("no " + word, Pattern.compile(pattern).matcher(code).find(), false);
        }
        Matcher imports = Pattern.compile("import ([^;]*);").matcher(code);
        while (imports.find()) {
            Check.due("rule 4: " + imports.group(1), LIBRARY.contains(imports.group(1)), true);
        }
        Matcher methods = Pattern.compile("(?ms)^( +)[^ \n}][^\n;=]*\\)[^;=\n]*\\{\n(.*?)^\\1\\}").matcher(code);
        while (methods.find()) {
            int lines = methods.group(2).split("\n").length;
            Check.due("rule 11: some sixty lines: " + methods.group().split("\n")[0], lines <= 60, true);
        }
    }
}
