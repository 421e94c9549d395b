import java.io.ByteArrayOutputStream;
import java.io.PrintStream;
import java.lang.reflect.InvocationTargetException;
import java.lang.reflect.Method;
import java.net.URL;
import java.net.URLClassLoader;
import java.nio.file.Files;
import java.nio.file.Path;
import java.util.regex.Matcher;
import java.util.regex.Pattern;
import javax.tools.ToolProvider;

/** Plays the examples of README.md, in their order on one object, and runs its program. */
public final class ReadmeTest {
    private static final Pattern PROGRAM = Pattern.compile("```java\\n(.*?)```.*?```text\\n(.*?)```", Pattern.DOTALL);
    private static final Pattern EXAMPLE = Pattern.compile("```(path|day)\\n(.*?)```"
        + "|`([^`\\n]+)` as a (PATH|DAY) is (\\d+)"
        + "|`(\\w+)\\(([^`\\n]*)\\)` is (-?\\d+|true|false|NoSuchElementException)", Pattern.DOTALL);

    public static void main(String[] args) throws Exception {
        String page = Files.readString(Path.of("README.md"));
        program(page);
        examples(page);
        names(page);
        Due.end();
    }

    private static void program(String page) throws Exception {
        Matcher matcher = PROGRAM.matcher(page);
        Due.due("README has a program and what it prints", matcher.find(), true);
        Path room = Files.createTempDirectory("readme");
        Path source = Files.writeString(room.resolve("Picnic.java"), matcher.group(1));
        int rc = ToolProvider.getSystemJavaCompiler().run(null, null, null,
            "-cp", System.getProperty("java.class.path"), "-d", room.toString(), source.toString());
        Due.due("javac of README's program", rc, 0);
        String printed = printedBy(room);
        Due.due("README's program printed\n" + printed, printed.equals(matcher.group(2)), true);
        Files.deleteIfExists(room.resolve("Picnic.class"));
        Files.deleteIfExists(source);
        Files.deleteIfExists(room);
    }

    private static String printedBy(Path room) throws Exception {
        PrintStream usual = System.out;
        ByteArrayOutputStream printed = new ByteArrayOutputStream();
        try (URLClassLoader loader = new URLClassLoader(new URL[] {room.toUri().toURL()})) {
            System.setOut(new PrintStream(printed, true));
            loader.loadClass("Picnic").getMethod("main", String[].class).invoke(null, (Object) new String[0]);
        } finally {
            System.setOut(usual);
        }
        return printed.toString().replace(System.lineSeparator(), "\n");
    }

    private static void examples(String page) throws Exception {
        LakeBins lake = new LakeBins();
        int played = 0;
        for (Matcher matcher = EXAMPLE.matcher(page); matcher.find(); played++) {
            if (matcher.group(1) != null) {
                read(lake, matcher.group(1), matcher.group(2), "0");
            } else if (matcher.group(3) != null) {
                read(lake, matcher.group(4), matcher.group(3), matcher.group(5));
            } else {
                String call = matcher.group(6) + "(" + matcher.group(7) + ")";
                same(call, answer(lake, matcher.group(6), matcher.group(7)), matcher.group(8));
            }
        }
        Due.due("README has examples: " + played, played > 80, true);
    }

    private static void read(LakeBins lake, String as, String text, String want) {
        int fault = as.equalsIgnoreCase("path") ? Due.path(lake, text) : Due.day(lake, text);
        same(text + " as a " + as, String.valueOf(fault), want);
    }

    private static void same(String what, String got, String want) {
        Due.due("README: " + what + " is " + want + ", but it answered " + got + ": alike", got.equals(want), true);
    }

    private static String answer(LakeBins lake, String name, String arguments) throws Exception {
        String[] told = arguments.isEmpty() ? new String[0] : arguments.split(", ");
        for (Method method : LakeBins.class.getMethods()) {
            if (method.getName().equals(name) && method.getDeclaringClass() == LakeBins.class) {
                return answer(lake, method, told);
            }
        }
        return "no such call";
    }

    private static String answer(LakeBins lake, Method method, String[] told) throws Exception {
        Class<?>[] types = method.getParameterTypes();
        if (types.length != told.length) {
            return "other arguments";
        }
        Object[] values = new Object[types.length];
        for (int i = 0; i < types.length; i++) {
            if (types[i] == boolean.class) {
                values[i] = Boolean.valueOf(told[i]);
            } else if (types[i] == long.class) {
                values[i] = Long.decode(told[i]);
            } else {
                values[i] = Integer.decode(told[i]);
            }
        }
        try {
            return String.valueOf(method.invoke(lake, values));
        } catch (InvocationTargetException thrown) {
            return thrown.getCause().getClass().getSimpleName();
        }
    }

    /** A row of a table for every call of the face. */
    private static void names(String page) {
        for (Method method : LakeBins.class.getMethods()) {
            boolean own = method.getDeclaringClass() == LakeBins.class;
            Due.due("README has a row of " + method.getName(), !own || page.contains("\n| `" + method.getName() + "("), true);
        }
    }
}
