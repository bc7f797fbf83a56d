import java.io.IOException;
import java.lang.reflect.Constructor;
import java.lang.reflect.Field;
import java.lang.reflect.Method;
import java.lang.reflect.Modifier;
import java.nio.file.Files;
import java.nio.file.Path;
import java.util.Map;
import java.util.Set;
import java.util.TreeMap;
import java.util.TreeSet;
import java.util.regex.Matcher;
import java.util.regex.Pattern;

/** The public face, and those rules of LANGUAGE.md that can be seen in the source. Run from the project's folder. */
public final class LanguageTest {
    private static final Path SOURCE = Path.of("src/main/java/TapeCompiler.java");
    private static final Set<String> FACE = Set.of(
        "int state(int,int,int,int)", "int drop()", "int weight(int)", "int run(int)", "int variable(int)",
        "boolean setVariable(int,int)", "int element(int)", "boolean setElement(int,int)", "int printed()",
        "int output(int)", "boolean level(int)");
    private static final Pattern FORBIDDEN = Pattern.compile(
        "\\b(import|package|throw|throws|try|catch|finally|synchronized|assert|instanceof|float|double|null|"
        + "String|Math|Integer|Long|System|Arrays|Object|interface|enum|record|var|native|volatile|transient)\\b|->|::|\\\"");
    private static final Pattern METHOD = Pattern.compile("(?m)^    (?:public|private)(?: static)? (?:\\w+ )?(\\w+)\\(([^)]*)\\) \\{$");
    private static final Pattern CALL = Pattern.compile("\\b(\\w+)\\(");
    private static final int LONGEST_METHOD = 60;
    private static final int DEEPEST_CALLS = 6;

    private static int wrong = 0;

    public static void main(String[] args) throws IOException {
        face();
        fields();
        String code = withoutComments(Files.readString(SOURCE));
        words(code);
        methods(code);
        System.out.println(wrong == 0 ? "the class keeps to the rules looked at" : wrong + " rules are broken");
        if (wrong != 0) {
            System.exit(1);
        }
    }

    private static void broken(String what) {
        wrong++;
        System.out.println(what);
    }

    private static void face() {
        Class<?> c = TapeCompiler.class;
        if (!Modifier.isPublic(c.getModifiers()) || !Modifier.isFinal(c.getModifiers())) {
            broken("the class is not public and final");
        }
        Set<String> found = new TreeSet<>();
        Set<String> publicNames = new TreeSet<>();
        for (Method m : c.getDeclaredMethods()) {
            if (Modifier.isPublic(m.getModifiers())) {
                found.add(signature(m));
                publicNames.add(m.getName());
            }
        }
        if (!found.equals(new TreeSet<>(FACE))) {
            broken("the public methods are " + found);
        }
        for (Method m : c.getDeclaredMethods()) {
            boolean isPrivate = Modifier.isPrivate(m.getModifiers());
            if (!isPrivate && !Modifier.isPublic(m.getModifiers())) {
                broken(m.getName() + " is neither public nor private");
            }
            if (isPrivate && publicNames.contains(m.getName())) {
                broken("a private method bears the public name " + m.getName());
            }
            if (m.getParameterCount() > 7) {
                broken(m.getName() + " takes more than seven parameters");
            }
        }
        Constructor<?>[] constructors = c.getDeclaredConstructors();
        if (constructors.length != 1 || constructors[0].getParameterCount() != 0 || !Modifier.isPublic(constructors[0].getModifiers())) {
            broken("there is not just the one public constructor");
        }
        if (c.getDeclaredClasses().length != 0) {
            broken("there is a nested class");
        }
    }

    private static String signature(Method m) {
        StringBuilder text = new StringBuilder(m.getReturnType().getName() + " " + m.getName() + "(");
        for (Class<?> type : m.getParameterTypes()) {
            text.append(text.charAt(text.length() - 1) == '(' ? "" : ",").append(type.getName());
        }
        return text.append(")").toString();
    }

    private static void fields() {
        int own = 0;
        for (Field f : TapeCompiler.class.getDeclaredFields()) {
            boolean isStatic = Modifier.isStatic(f.getModifiers());
            boolean isConstant = f.getName().equals("BAD") || f.getName().equals("FULL");
            if (isConstant != Modifier.isPublic(f.getModifiers()) || !isConstant && !Modifier.isPrivate(f.getModifiers())) {
                broken("field " + f.getName() + " is not as visible as it must be");
            }
            if (isStatic && (!Modifier.isFinal(f.getModifiers()) || f.getType() != int.class && f.getType() != long.class)) {
                broken("static field " + f.getName() + " is not a constant of int or long");
            }
            own += isStatic ? 0 : 1;
        }
        if (own > 40) {
            broken("there are " + own + " fields");
        }
    }

    private static String withoutComments(String text) {
        return text.replaceAll("(?s)/\\*.*?\\*/", "").replaceAll("//[^\\n]*", "");
    }

    private static void words(String code) {
        Matcher word = FORBIDDEN.matcher(code);
        while (word.find()) {
            broken("the source has " + word.group());
        }
        for (String line : code.split("\n")) {
            boolean makesField = line.matches("    private final \\w+\\[\\] \\w+ = new \\w+\\[\\w+\\];");
            if (line.matches(".*\\bnew\\b.*") && !makesField) {
                broken("something is made outside a field's initialiser: " + line.trim());
            }
            if (line.matches(".*\\b(?!if|for|while|switch|return)\\w+\\([^()]*\\b\\w+\\(.*") && !line.matches("\\s*(?:\\}? ?else )?(?:if|for|while|switch|return)\\b.*")) {
                broken("a call stands inside another call's arguments: " + line.trim());
            }
        }
    }

    private static void methods(String code) {
        Map<String, String> bodies = new TreeMap<>();
        Matcher method = METHOD.matcher(code);
        while (method.find()) {
            String body = code.substring(method.end(), code.indexOf("\n    }\n", method.end()));
            bodies.put(method.group(1), body);
            if (body.split("\n").length + 1 > LONGEST_METHOD) {
                broken(method.group(1) + " is longer than " + LONGEST_METHOD + " lines");
            }
        }
        if (bodies.size() != TapeCompiler.class.getDeclaredMethods().length + 1) {
            broken("not every method was found in the source");
        }
        for (String name : bodies.keySet()) {
            int deep = depth(name, bodies, 1);
            if (deep > DEEPEST_CALLS) {
                broken("calls from " + name + " go too deep or come back to it");
            }
        }
    }

    private static int depth(String name, Map<String, String> bodies, int so) {
        int deepest = so;
        Matcher call = CALL.matcher(bodies.get(name));
        while (call.find() && so <= DEEPEST_CALLS) {
            if (bodies.containsKey(call.group(1))) {
                deepest = Math.max(deepest, depth(call.group(1), bodies, so + 1));
            }
        }
        return deepest;
    }
}
