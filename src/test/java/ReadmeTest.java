import java.io.IOException;
import java.lang.reflect.Method;
import java.lang.reflect.Modifier;
import java.nio.file.Files;
import java.nio.file.Path;
import java.util.regex.Matcher;
import java.util.regex.Pattern;

/** The calls of README.md answer what it says, and it tells of every method. Run from the project's folder. */
public final class ReadmeTest {
    private static final Pattern EXAMPLE = Pattern.compile("(?s)```java\\n(.*?)```");
    private static final Pattern CALL = Pattern.compile("t\\.(\\w+)\\(([^)]*)\\); +// (-?\\w+)\\b.*");
    private static final String FIRST_LINE = "TapeCompiler t = new TapeCompiler();";

    private static int wrong = 0;

    public static void main(String[] args) throws IOException, ReflectiveOperationException {
        String readme = Files.readString(Path.of("README.md"));
        everyMethod(readme);
        example(readme);
        System.out.println(wrong == 0 ? "README.md says what holds" : wrong + " faults in README.md");
        if (wrong != 0) {
            System.exit(1);
        }
    }

    private static void fault(String what) {
        wrong++;
        System.out.println(what);
    }

    private static void everyMethod(String readme) {
        for (Method m : TapeCompiler.class.getDeclaredMethods()) {
            if (Modifier.isPublic(m.getModifiers()) && !readme.contains("`" + m.getName() + "(")) {
                fault("nothing is said of " + m.getName());
            }
        }
    }

    private static void example(String readme) throws ReflectiveOperationException {
        Matcher example = EXAMPLE.matcher(readme);
        if (!example.find()) {
            fault("there is no example");
            return;
        }
        TapeCompiler t = new TapeCompiler();
        for (String line : example.group(1).split("\n")) {
            Matcher call = CALL.matcher(line);
            if (call.matches()) {
                answers(t, line, call);
            } else if (!line.equals(FIRST_LINE)) {
                fault("not a call with its answer: " + line);
            }
        }
    }

    private static void answers(TapeCompiler t, String line, Matcher call) throws ReflectiveOperationException {
        String[] texts = call.group(2).isEmpty() ? new String[0] : call.group(2).split(", ");
        Object[] values = new Object[texts.length];
        Class<?>[] types = new Class<?>[texts.length];
        for (int i = 0; i < texts.length; i++) {
            values[i] = Integer.valueOf(texts[i]);
            types[i] = int.class;
        }
        Object got = TapeCompiler.class.getMethod(call.group(1), types).invoke(t, values);
        if (!call.group(3).equals(got.toString())) {
            fault("answered " + got + ": " + line);
        }
    }
}
