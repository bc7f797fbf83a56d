/** What the tests of single sentences share. A failure is told with the sentence that it breaks. */
abstract class Sentences {
    static final int BAD = -1;
    static final int FULL = -2;
    static final int MIN = Integer.MIN_VALUE;
    static final int MAX = Integer.MAX_VALUE;

    static int level;
    private static String sentence;
    private static int looked = 0;
    private static int wrong = 0;

    /** Ends the program with exit code 1 if an answer was not the one that is due. */
    static void atEachLevel(Runnable checks) {
        for (level = 0; level <= 1; level++) {
            looked = 0;
            checks.run();
        }
        System.out.println(wrong == 0 ? looked + " sentences hold at each level" : wrong + " answers are not as due");
        if (wrong != 0) {
            System.exit(1);
        }
    }

    static void holds(String words, Runnable check) {
        sentence = words;
        looked++;
        try {
            check.run();
        } catch (RuntimeException e) {
            wrong++;
            System.out.println("[" + words + "] at level " + level + " threw " + e);
        }
    }

    static void due(String what, Object got, Object want) {
        if (!want.equals(got)) {
            wrong++;
            System.out.println("[" + sentence + "] at level " + level + ": " + what + " answered " + got + ", due is " + want);
        }
    }

    static TapeCompiler fresh() {
        TapeCompiler t = new TapeCompiler();
        due("level(" + level + ")", t.level(level), true);
        return t;
    }

    /** No two variables hold the same, nor do two elements, so that a change in a wrong place shows. */
    static TapeCompiler filled() {
        TapeCompiler t = fresh();
        for (int v = 0; v < 6; v++) {
            t.setVariable(v, 10 + v);
        }
        for (int i = 0; i < 16; i++) {
            t.setElement(i, (i * 7 + 5) % 16);
        }
        return t;
    }

    /** Statements 0 to 4, the weights 1, 3, 7, 11 and 12, the nestings 0, 0, 0, 0 and 1. */
    static TapeCompiler withWeights() {
        TapeCompiler t = filled();
        t.state(9, 0, 0, 0);
        t.state(10, 0, 0, 0);
        t.state(10, 1, 1, 0);
        t.state(10, 2, 1, 0);
        t.state(12, 0, 3, 0);
        return t;
    }

    /** Statements 0 to 2, their nestings 0, 1 and 2. */
    static TapeCompiler withNestings() {
        TapeCompiler t = filled();
        t.state(9, 0, 0, 0);
        t.state(12, 0, 0, 0);
        t.state(12, 0, 1, 0);
        return t;
    }

    /** Statement 4 prints 1, 2, 3 and so on, as often as variable 2 times variable 3 says; 5 prints one more. */
    static TapeCompiler printer() {
        TapeCompiler t = fresh();
        t.setVariable(1, 1);
        t.state(2, 0, 1, 0);
        t.state(9, 0, 0, 0);
        t.state(10, 0, 1, 0);
        t.state(12, 2, 2, 0);
        t.state(12, 3, 3, 0);
        t.state(10, 4, 2, 0);
        return t;
    }

    static int print(TapeCompiler t, int s, int inner, int outer) {
        t.setVariable(0, 0);
        t.setVariable(2, inner);
        t.setVariable(3, outer);
        return t.run(s);
    }

    static TapeCompiler with40() {
        TapeCompiler t = filled();
        for (int s = 0; s < 40; s++) {
            t.state(9, s % 6, 0, 0);
        }
        return t;
    }

    static String values(TapeCompiler t) {
        StringBuilder text = new StringBuilder("variables");
        for (int v = 0; v < 6; v++) {
            text.append(' ').append(t.variable(v));
        }
        text.append(" array");
        for (int i = 0; i < 16; i++) {
            text.append(' ').append(t.element(i));
        }
        text.append(" output of ").append(t.printed());
        for (int k = 0; k < 40; k++) {
            text.append(' ').append(t.output(k));
        }
        return text.toString();
    }

    /** All that can be asked: 103 calls, so at most four times of one object. */
    static String all(TapeCompiler t) {
        StringBuilder text = new StringBuilder(values(t)).append(" weights");
        for (int s = 0; s < 40; s++) {
            text.append(' ').append(t.weight(s));
        }
        return text.toString();
    }
}
