import java.io.IOException;
import java.lang.reflect.Constructor;
import java.lang.reflect.Field;
import java.lang.reflect.Method;
import java.lang.reflect.Modifier;
import java.nio.file.Files;
import java.nio.file.Path;
import java.util.ArrayDeque;
import java.util.ArrayList;
import java.util.Deque;
import java.util.List;
import java.util.Map;
import java.util.Set;
import java.util.TreeMap;
import java.util.TreeSet;
import java.util.regex.Matcher;
import java.util.regex.Pattern;

/**
 * The public face, and those rules of LANGUAGE.md that can be seen in the source, whatever its layout is.
 * Run from the project's folder.
 */
public final class LanguageTest {
    private static final Path SOURCE = Path.of("src/main/java/TapeCompiler.java");
    private static final String CLASS = "TapeCompiler";
    private static final Set<String> FACE = Set.of(
        "int state(int,int,int,int)", "int drop()", "int weight(int)", "int run(int)", "int variable(int)",
        "boolean setVariable(int,int)", "int element(int)", "boolean setElement(int,int)", "int printed()",
        "int output(int)", "boolean level(int)");
    private static final Pattern COMMENT = Pattern.compile("(?s)/\\*.*?\\*/|//[^\\n]*");
    private static final Pattern TOKEN = Pattern.compile(
        "'(?:\\\\.|[^\\\\'])+'|\\d[\\w.]*|\\w+|->|::|\\+\\+|--|&&|\\|\\||(?:<<|>>>|>>)=?|[-+*/%&|^<>=!]=|\\S");
    private static final Set<String> FORBIDDEN = Set.of(
        "import", "package", "throw", "throws", "try", "catch", "finally", "synchronized", "assert", "instanceof",
        "float", "double", "null", "interface", "enum", "native", "::", "\"");
    private static final Set<String> NUMBER_TYPES = Set.of("int", "long", "short", "byte", "char", "boolean");
    private static final Set<String> NOT_CALLS = Set.of("if", "for", "while", "switch", "return", "case", "this", "super");
    private static final Set<String> METHODS_OF_OBJECT = Set.of(
        "getClass", "hashCode", "equals", "toString", "notify", "notifyAll", "wait", "clone", "finalize");
    private static final Set<String> COMPARISONS = Set.of("<", ">", "<=", ">=", "!=");
    private static final int LONGEST_METHOD = 65;
    private static final int DEEPEST_CALLS = 6;

    private record Token(String text, int line) { }

    private record Body(int from, int to) { }

    private static final List<Token> tokens = new ArrayList<>();
    private static final Map<String, Body> bodies = new TreeMap<>();
    private static int wrong = 0;

    public static void main(String[] args) throws IOException {
        face();
        fields();
        readTokens(Files.readString(SOURCE));
        findBodies();
        words();
        arrays();
        callsInCalls();
        loops();
        lengthsAndDepths();
        System.out.println(wrong == 0 ? "the class keeps to the rules looked at" : wrong + " rules are broken");
        if (wrong != 0) {
            System.exit(1);
        }
    }

    private static void broken(String what) {
        wrong++;
        System.out.println(what);
    }

    private static void brokenAt(int i, int rule, String what) {
        broken("rule " + rule + ", line " + tokens.get(i).line + ": " + what);
    }

    private static void face() {
        Class<?> c = TapeCompiler.class;
        if (!Modifier.isPublic(c.getModifiers()) || !Modifier.isFinal(c.getModifiers())) {
            broken("rule 1: the class is not public and final");
        }
        Set<String> found = new TreeSet<>();
        Set<String> publicNames = new TreeSet<>();
        for (Method m : c.getDeclaredMethods()) {
            if (Modifier.isPublic(m.getModifiers())) {
                found.add(signature(m));
                publicNames.add(m.getName());
            }
        }
        if (!found.equals(new TreeSet<>(FACE))) {
            broken("rule 1: the public methods are " + found);
        }
        for (Method m : c.getDeclaredMethods()) {
            privateMethod(m, publicNames);
        }
        Constructor<?>[] constructors = c.getDeclaredConstructors();
        if (constructors.length != 1 || constructors[0].getParameterCount() != 0 || !Modifier.isPublic(constructors[0].getModifiers())) {
            broken("rule 1: there is not just the one public constructor");
        }
    }

    private static void privateMethod(Method m, Set<String> publicNames) {
        boolean isPrivate = Modifier.isPrivate(m.getModifiers());
        if (!isPrivate && !Modifier.isPublic(m.getModifiers())) {
            broken("rule 1: " + m.getName() + " is neither public nor private");
        }
        if (isPrivate && publicNames.contains(m.getName())) {
            broken("rule 1: a private method bears the public name " + m.getName());
        }
        if (m.getReturnType().isArray()) {
            broken("rule 4: " + m.getName() + " answers an array");
        }
        if (m.getParameterCount() > 7) {
            broken("rule 10: " + m.getName() + " takes more than seven parameters");
        }
    }

    private static String signature(Method m) {
        StringBuilder text = new StringBuilder(m.getReturnType().getName() + " " + m.getName() + "(");
        for (Class<?> type : m.getParameterTypes()) {
            text.append(text.charAt(text.length() - 1) == '(' ? "" : ",").append(type.getName());
        }
        return text.append(")").toString();
    }

    private static void fields() {
        int own = 0;
        for (Field f : TapeCompiler.class.getDeclaredFields()) {
            boolean isStatic = Modifier.isStatic(f.getModifiers());
            boolean isConstant = f.getName().equals("BAD") || f.getName().equals("FULL");
            if (isConstant != Modifier.isPublic(f.getModifiers()) || !isConstant && !Modifier.isPrivate(f.getModifiers())) {
                broken("rule 1: field " + f.getName() + " is not as visible as it must be");
            }
            if (isStatic && (!Modifier.isFinal(f.getModifiers()) || f.getType() != int.class && f.getType() != long.class)) {
                broken("rule 5: static field " + f.getName() + " is not a constant of int or long");
            }
            own += isStatic ? 0 : 1;
        }
        if (own > 40) {
            broken("rule 10: there are " + own + " fields");
        }
    }

    /** Comments become blanks of the same number of lines, so that the lines of the tokens stay right. */
    private static void readTokens(String source) {
        String code = COMMENT.matcher(source).replaceAll(c -> " " + "\n".repeat((int) c.group().lines().count() - 1));
        int number = 0;
        for (String line : code.split("\n")) {
            number++;
            Matcher token = TOKEN.matcher(line);
            while (token.find()) {
                tokens.add(new Token(token.group(), number));
            }
        }
    }

    private static String text(int i) {
        return i >= 0 && i < tokens.size() ? tokens.get(i).text : "";
    }

    private static boolean isWord(String text) {
        return text.matches("[A-Za-z_$][\\w$]*");
    }

    private static boolean isCall(int i) {
        return isWord(text(i)) && text(i + 1).equals("(") && !NOT_CALLS.contains(text(i));
    }

    /** Where the bracket that opens at i is closed. */
    private static int end(int i, String open, String close) {
        int depth = 0;
        for (int j = i; j < tokens.size(); j++) {
            depth += text(j).equals(open) ? 1 : text(j).equals(close) ? -1 : 0;
            if (depth == 0) {
                return j;
            }
        }
        return tokens.size() - 1;
    }

    /** In the class but in no method, what looks like a call and has a block after it is a method. */
    private static void findBodies() {
        for (int i = 0; i < tokens.size(); i++) {
            int close = isCall(i) ? end(i + 1, "(", ")") : i;
            if (close > i && text(close + 1).equals("{")) {
                Body body = new Body(i, end(close + 1, "{", "}"));
                bodies.put(text(i), body);
                i = body.to;
            }
        }
        if (bodies.size() != TapeCompiler.class.getDeclaredMethods().length + 1) {
            broken("not every method was found in the source, or two have one name");
        }
    }

    private static void words() {
        int classes = 0;
        for (int i = 0; i < tokens.size(); i++) {
            String t = text(i);
            classes += t.equals("class") ? 1 : 0;
            if (FORBIDDEN.contains(t)) {
                broken("line " + tokens.get(i).line + ": " + t + " is not in the language");
            }
            if (t.matches("[A-Z]\\w*[a-z]\\w*") && !t.equals(CLASS)) {
                brokenAt(i, 3, "the class " + t);
            }
            if (t.matches("(?!0[xX])\\d[\\w.]*[.fFdDeE][\\w.]*")) {
                brokenAt(i, 2, "the number " + t);
            }
            if (METHODS_OF_OBJECT.contains(t) && isCall(i)) {
                brokenAt(i, 3, "a method of Object, " + t);
            }
            if (t.equals(".") && isCall(i + 1) && !text(i - 1).equals("this")) {
                brokenAt(i, 3, "a call on another object");
            }
            if (t.equals("->") && !standsInCase(i)) {
                brokenAt(i, 6, "a lambda");
            }
        }
        if (classes != 1) {
            broken("rule 1: there are " + classes + " classes");
        }
    }

    private static boolean standsInCase(int i) {
        int j = i;
        while (j > 0 && !text(j - 1).matches("[;{}]")) {
            j--;
        }
        return text(j).equals("case") || text(j).equals("default");
    }

    private static void arrays() {
        for (int i = 0; i < tokens.size(); i++) {
            if (text(i).equals("new")) {
                newArray(i);
            }
            if (text(i).equals("]") && text(i + 1).equals("[")) {
                brokenAt(i, 2, "an array of two dimensions");
            }
            if (text(i).equals("=") && text(i + 1).equals("{")) {
                brokenAt(i, 4, "an array without a length");
            }
        }
        for (Field f : TapeCompiler.class.getDeclaredFields()) {
            if (f.getType().isArray()) {
                assigned(f.getName());
            }
        }
    }

    private static void newArray(int i) {
        String length = text(i + 3);
        if (!NUMBER_TYPES.contains(text(i + 1)) || !text(i + 2).equals("[") || !length.matches("[1-9]\\w*|[A-Z]\\w*") || !text(i + 4).equals("]")) {
            brokenAt(i, 4, "something is made that is no array of a constant length");
        }
        for (String name : bodies.keySet()) {
            if (isWithin(i, name) && !name.equals(CLASS)) {
                brokenAt(i, 4, "the method " + name + " makes something");
            }
        }
    }

    private static boolean isWithin(int i, String name) {
        return i >= bodies.get(name).from && i <= bodies.get(name).to;
    }

    private static void assigned(String field) {
        for (String name : bodies.keySet()) {
            for (int i = bodies.get(name).from; i < bodies.get(name).to; i++) {
                if (!name.equals(CLASS) && text(i).equals(field) && text(i + 1).equals("=")) {
                    brokenAt(i, 4, name + " assigns to the array " + field);
                }
            }
        }
    }

    private static void callsInCalls() {
        Deque<Boolean> open = new ArrayDeque<>();
        for (int i = 0; i < tokens.size(); i++) {
            if (isCall(i) && open.contains(true)) {
                brokenAt(i, 10, "a call of " + text(i) + " stands inside the arguments of another call");
            }
            if (text(i).equals("(")) {
                open.push(isCall(i - 1));
            } else if (text(i).equals(")")) {
                open.pop();
            }
        }
    }

    /** Whether the counter does reach its bound is not looked at. */
    private static void loops() {
        for (int i = 0; i < tokens.size(); i++) {
            if (text(i).equals("for") || text(i).equals("while")) {
                int close = end(i + 1, "(", ")");
                boolean compares = false;
                for (int j = i; j < close; j++) {
                    compares |= COMPARISONS.contains(text(j));
                }
                if (!compares) {
                    brokenAt(i, 8, "a loop without a bound");
                }
            }
        }
    }

    private static void lengthsAndDepths() {
        for (String name : bodies.keySet()) {
            Body body = bodies.get(name);
            if (tokens.get(body.to).line - tokens.get(body.from).line + 1 > LONGEST_METHOD) {
                brokenAt(body.from, 10, name + " is longer than " + LONGEST_METHOD + " lines");
            }
            if (depth(name, 1) > DEEPEST_CALLS) {
                brokenAt(body.from, 10, "calls from " + name + " go too deep or come back to it");
            }
        }
    }

    private static int depth(String name, int so) {
        int deepest = so;
        for (int i = bodies.get(name).from + 1; i < bodies.get(name).to && deepest <= DEEPEST_CALLS; i++) {
            if (isCall(i) && bodies.containsKey(text(i))) {
                deepest = Math.max(deepest, depth(text(i), so + 1));
            }
        }
        return deepest;
    }
}
