/**
 * One test for each sentence of "Terms" that names a boundary case: too small, too large, empty, full,
 * a wrap-around, a refused call.
 */
public final class TermsBoundaryTest extends Sentences {
    public static void main(String[] args) {
        atEachLevel(() -> {
            numbersVariablesArray();
            kinds();
            weightAndNesting();
        });
    }

    private static void numbersVariablesArray() {
        holds("What it is: used for at most 512 calls", TermsBoundaryTest::all512Calls);
        holds("Terms: NUMBERS are from 0 to 15", TermsBoundaryTest::leastAndGreatestNumber);
        holds("Terms: results are taken modulo 16", TermsBoundaryTest::resultsWrap);
        holds("Terms: results are taken modulo 16 (also before they are used again)", TermsBoundaryTest::resultsWrapWithinARun);
        holds("Terms: 6 VARIABLES, 0 to 5", TermsBoundaryTest::firstAndLastVariable);
        holds("Terms: an ARRAY of 16 elements, 0 to 15", TermsBoundaryTest::firstAndLastElement);
        holds("Terms: all numbers, at first 0", TermsBoundaryTest::atFirstZero);
        holds("Terms: they outlast runs", TermsBoundaryTest::outlastRuns);
        holds("Terms: STATEMENTS are numbered from 0, at most 40", TermsBoundaryTest::fortyStatements);
    }

    private static void kinds() {
        holds("Terms: 0 x becomes the number y (y is from 0 to 15)", TermsBoundaryTest::kind0);
        holds("Terms: 1 x becomes y", TermsBoundaryTest::kind1);
        holds("Terms: 2 x becomes x + y", TermsBoundaryTest::kind2);
        holds("Terms: 3 x becomes x - y", TermsBoundaryTest::kind3);
        holds("Terms: 4 x becomes y * z", TermsBoundaryTest::kind4);
        holds("Terms: 5 x becomes 1 if y < z, else 0", TermsBoundaryTest::kind5);
        holds("Terms: 6 x becomes 1 if y = z, else 0", TermsBoundaryTest::kind6);
        holds("Terms: 7 x becomes element y of the array", TermsBoundaryTest::kind7);
        holds("Terms: 8 element x of the array becomes y", TermsBoundaryTest::kind8);
        holds("Terms: 9 the value of variable x is added to the output", TermsBoundaryTest::kind9);
        holds("Terms: 10 statement x, then statement y", TermsBoundaryTest::kind10);
        holds("Terms: 11 if x is not 0 statement y, else statement z", TermsBoundaryTest::kind11);
        holds("Terms: 12 statement y as many times as x said at the beginning", TermsBoundaryTest::kind12);
        holds("Terms: 12 (x said at the beginning, and may change)", TermsBoundaryTest::kind12ChangesItsX);
        holds("Terms: 13 x becomes y divided by z, cut to a whole number", TermsBoundaryTest::kind13);
        holds("Terms: 13 or 0 if z is 0", TermsBoundaryTest::kind13ByZero);
    }

    private static void weightAndNesting() {
        holds("Terms: the WEIGHT is at most 12 (kind 10)", TermsBoundaryTest::weightOfKind10);
        holds("Terms: the WEIGHT is at most 12 (kind 11)", TermsBoundaryTest::weightOfKind11);
        holds("Terms: the WEIGHT is at most 12 (kind 12)", TermsBoundaryTest::weightOfKind12);
        holds("Terms: the NESTING is at most 2 (kind 11)", TermsBoundaryTest::nestingOfKind11);
        holds("Terms: the NESTING is at most 2 (kind 12)", TermsBoundaryTest::nestingOfKind12);
        holds("Terms: the NESTING is at most 2 (carried out)", TermsBoundaryTest::greatestNestingIsCarriedOut);
        holds("Terms: the NESTING is at most 2 (each kind inmost)", TermsBoundaryTest::eachKindInmost);
        holds("Terms: the NESTING, that for kind 10", TermsBoundaryTest::nestingOfKind10);
        holds("Terms: the NESTING, 0 for others", TermsBoundaryTest::nestingOfOthers);
    }

    /**
     * What becomes of variable x when variables 0 to 2 hold a, b and c; the others must stay. It is done three
     * times on one object, because what a run leaves behind would show only in a later one.
     */
    private static int result(int kind, int x, int y, int z, int a, int b, int c) {
        TapeCompiler t = filled();
        int[] before = {a, b, c, 13, 14, 15};
        int s = t.state(kind, x, y, z);
        int first = resultOf(t, s, x, before);
        for (int again = 2; again <= 3; again++) {
            due("kind " + kind + ", time " + again, resultOf(t, s, x, before), first);
        }
        return first;
    }

    private static int resultOf(TapeCompiler t, int s, int x, int[] before) {
        for (int v = 0; v < 6; v++) {
            t.setVariable(v, before[v]);
        }
        due("run", t.run(s), 0);
        for (int v = 0; v < 6; v++) {
            if (v != x) {
                due("variable " + v + " beside x", t.variable(v), before[v]);
            }
        }
        for (int i = 0; i < 16; i++) {
            due("element " + i, t.element(i), (i * 7 + 5) % 16);
        }
        return t.variable(x);
    }

    private static void dueXY(int kind, int x, int y, int want) {
        due("kind " + kind + " of " + x + " and " + y, result(kind, 0, 1, MIN, x, y, 9), want);
    }

    private static void dueYZ(int kind, int y, int z, int want) {
        due("kind " + kind + " of " + y + " and " + z, result(kind, 0, 1, 2, 9, y, z), want);
        due("kind " + kind + " of " + y + " and " + z + ", x being y", result(kind, 1, 1, 2, 9, y, z), want);
        due("kind " + kind + " of " + y + " and " + z + ", x being z", result(kind, 2, 1, 2, 9, y, z), want);
    }

    private static void all512Calls() {
        TapeCompiler t = new TapeCompiler();
        due("call 1", t.level(level), true);
        due("call 2", t.setVariable(1, 1), true);
        due("call 3", t.state(2, 0, 1, 0), 0);
        due("call 4", t.state(9, 0, 0, 0), 1);
        due("call 5", t.state(10, 0, 1, 0), 2);
        for (int call = 6; call < 512; call += 2) {
            due("call " + call, t.run(2), 1);
            due("call " + (call + 1), t.output(0), (call - 4) / 2 % 16);
        }
        due("call 512", t.variable(0), 253 % 16);
        for (int call = 513; call < 1100; call++) {
            t.run(2);
        }
    }

    private static void leastAndGreatestNumber() {
        TapeCompiler t = fresh();
        for (int n : new int[] {15, 0}) {
            due("setVariable", t.setVariable(3, n), true);
            due("setElement", t.setElement(n, n), true);
            due("variable", t.variable(3), n);
            due("element", t.element(n), n);
            due("run", t.run(t.state(9, 3, 0, 0)), 1);
            due("output", t.output(0), n);
        }
        due("setVariable(3, 16)", t.setVariable(3, 16), false);
        due("setVariable(3, -1)", t.setVariable(3, -1), false);
        due("setElement(3, 16)", t.setElement(3, 16), false);
        due("setElement(3, -1)", t.setElement(3, -1), false);
    }

    private static void resultsWrap() {
        dueXY(2, 15, 1, 0);
        dueXY(2, 15, 15, 14);
        dueXY(3, 0, 1, 15);
        dueXY(3, 0, 15, 1);
        dueYZ(4, 4, 4, 0);
        dueYZ(4, 15, 15, 1);
    }

    /** 15 + 1 is 0 as an index, as a choice and as a number of turns; 0 - 1 is 15. */
    private static void resultsWrapWithinARun() {
        TapeCompiler t = filled();
        t.setVariable(0, 15);
        t.setVariable(1, 1);
        t.state(2, 0, 1, 0);
        t.state(7, 2, 0, 0);
        t.run(t.state(10, 0, 1, 0));
        due("element 15 + 1", t.variable(2), 5);
        t.state(3, 0, 1, 0);
        t.state(8, 0, 1, 0);
        t.run(t.state(10, 3, 4, 0));
        due("element 0 - 1", t.element(15), 1);
        due("element 0", t.element(0), 5);
        t.state(9, 1, 0, 0);
        t.state(12, 0, 6, 0);
        due("15 + 1 times", t.run(t.state(10, 0, 7, 0)), 0);
        due("0 - 1 times", t.run(t.state(10, 3, 7, 0)), 15);
        t.state(9, 3, 0, 0);
        t.state(11, 0, 10, 6);
        due("run", t.run(t.state(10, 0, 11, 0)), 1);
        due("15 + 1 is not 0", t.output(0), 1);
        due("run", t.run(t.state(10, 3, 11, 0)), 1);
        due("0 - 1 is not 0", t.output(0), 13);
    }

    private static void firstAndLastVariable() {
        for (int v : new int[] {0, 5}) {
            int other = 5 - v;
            TapeCompiler t = fresh();
            due("setVariable(" + v + ", 9)", t.setVariable(v, 9), true);
            due("variable(" + v + ")", t.variable(v), 9);
            due("run", t.run(t.state(1, other, v, 0)), 0);
            due("variable(" + other + ")", t.variable(other), 9);
            due("run", t.run(t.state(4, v, other, other)), 0);
            due("variable(" + v + ")", t.variable(v), 1);
        }
        TapeCompiler t = fresh();
        for (int v : new int[] {-1, 6}) {
            due("variable(" + v + ")", t.variable(v), BAD);
            due("setVariable(" + v + ", 0)", t.setVariable(v, 0), false);
            due("state(9, " + v + ", 0, 0)", t.state(9, v, 0, 0), BAD);
        }
    }

    private static void firstAndLastElement() {
        TapeCompiler t = fresh();
        due("setElement(0, 3)", t.setElement(0, 3), true);
        due("setElement(15, 12)", t.setElement(15, 12), true);
        due("element(0)", t.element(0), 3);
        due("element(15)", t.element(15), 12);
        for (int i = 1; i < 15; i++) {
            due("element(" + i + ")", t.element(i), 0);
        }
        for (int i : new int[] {-1, 16}) {
            due("element(" + i + ")", t.element(i), BAD);
            due("setElement(" + i + ", 0)", t.setElement(i, 0), false);
        }
    }

    private static void atFirstZero() {
        TapeCompiler t = fresh();
        for (int v = 0; v < 6; v++) {
            due("variable(" + v + ")", t.variable(v), 0);
        }
        for (int i = 0; i < 16; i++) {
            due("element(" + i + ")", t.element(i), 0);
        }
        t.setVariable(1, 15);
        t.run(t.state(7, 1, 1, 0));
        due("element 15, fetched", t.variable(1), 0);
        TapeCompiler other = fresh();
        due("another object's variable(1)", other.variable(1), 0);
    }

    private static void outlastRuns() {
        TapeCompiler t = filled();
        t.run(t.state(0, 0, 15, 0));
        t.run(t.state(8, 0, 0, 0));
        due("run of none", t.run(40), BAD);
        t.drop();
        due("run", t.run(t.state(9, 0, 0, 0)), 1);
        due("output(0)", t.output(0), 15);
        due("run", t.run(t.state(9, 0, 0, 0)), 1);
        due("variable(0)", t.variable(0), 15);
        for (int v = 1; v < 6; v++) {
            due("variable(" + v + ")", t.variable(v), 10 + v);
        }
        for (int i = 0; i < 15; i++) {
            due("element(" + i + ")", t.element(i), (i * 7 + 5) % 16);
        }
        due("element(15)", t.element(15), 15);
    }

    private static void fortyStatements() {
        TapeCompiler t = fresh();
        for (int s = 0; s < 40; s++) {
            due("statement " + (s + 1), t.state(0, 0, s % 16, 0), s);
        }
        due("statement 41", t.state(0, 0, 0, 0), FULL);
        due("run(39)", t.run(39), 0);
        due("variable(0)", t.variable(0), 39 % 16);
        due("run(40)", t.run(40), BAD);
    }

    private static void kind0() {
        due("state(0, 0, -1, 0)", filled().state(0, 0, -1, 0), BAD);
        due("state(0, 0, 16, 0)", filled().state(0, 0, 16, 0), BAD);
        for (int n = 0; n < 16; n++) {
            due("x becomes " + n, result(0, 0, n, MAX, 15 - n, 5, 5), n);
        }
    }

    private static void kind1() {
        dueXY(1, 15, 0, 0);
        dueXY(1, 0, 15, 15);
        due("x becomes x", result(1, 0, 0, MIN, 15, 1, 2), 15);
    }

    private static void kind2() {
        dueXY(2, 0, 0, 0);
        dueXY(2, 15, 0, 15);
        dueXY(2, 0, 15, 15);
        dueXY(2, 14, 1, 15);
        dueXY(2, 1, 15, 0);
        due("7 + itself", result(2, 0, 0, MIN, 7, 1, 2), 14);
        due("8 + itself", result(2, 0, 0, MIN, 8, 1, 2), 0);
        due("15 + itself", result(2, 0, 0, MIN, 15, 1, 2), 14);
    }

    private static void kind3() {
        dueXY(3, 0, 0, 0);
        dueXY(3, 15, 0, 15);
        dueXY(3, 15, 15, 0);
        dueXY(3, 14, 15, 15);
        due("0 - itself", result(3, 0, 0, MIN, 0, 1, 2), 0);
        due("15 - itself", result(3, 0, 0, MIN, 15, 1, 2), 0);
    }

    private static void kind4() {
        dueYZ(4, 0, 0, 0);
        dueYZ(4, 0, 15, 0);
        dueYZ(4, 15, 0, 0);
        dueYZ(4, 15, 1, 15);
        dueYZ(4, 1, 15, 15);
        dueYZ(4, 3, 5, 15);
        dueYZ(4, 2, 8, 0);
        dueYZ(4, 15, 2, 14);
        due("15 * itself", result(4, 0, 0, 0, 15, 1, 2), 1);
    }

    private static void kind5() {
        dueYZ(5, 0, 0, 0);
        dueYZ(5, 15, 15, 0);
        dueYZ(5, 0, 1, 1);
        dueYZ(5, 1, 0, 0);
        dueYZ(5, 14, 15, 1);
        dueYZ(5, 15, 14, 0);
        dueYZ(5, 0, 15, 1);
        dueYZ(5, 15, 0, 0);
        due("15 < itself", result(5, 0, 0, 0, 15, 1, 2), 0);
    }

    private static void kind6() {
        dueYZ(6, 0, 0, 1);
        dueYZ(6, 15, 15, 1);
        dueYZ(6, 0, 1, 0);
        dueYZ(6, 1, 0, 0);
        dueYZ(6, 0, 15, 0);
        dueYZ(6, 15, 0, 0);
        dueYZ(6, 0, 8, 0);
        due("0 = itself", result(6, 0, 0, 0, 0, 1, 2), 1);
        due("15 = itself", result(6, 0, 0, 0, 15, 1, 2), 1);
    }

    private static void kind7() {
        dueXY(7, 9, 0, 5);
        dueXY(7, 9, 15, (15 * 7 + 5) % 16);
        due("x becomes element x, 0", result(7, 0, 0, MIN, 0, 1, 2), 5);
        due("x becomes element x, 15", result(7, 0, 0, MIN, 15, 1, 2), (15 * 7 + 5) % 16);
        TapeCompiler t = fresh();
        t.setVariable(0, 15);
        t.setElement(15, 15);
        t.setElement(0, 15);
        t.state(7, 1, 0, 0);
        due("run", t.run(0), 0);
        due("the greatest number in the last element", t.variable(1), 15);
        t.setElement(15, 0);
        due("run", t.run(0), 0);
        due("the least number in the last element", t.variable(1), 0);
    }

    private static void kind8() {
        for (int i : new int[] {0, 15}) {
            for (int n : new int[] {0, 15}) {
                TapeCompiler t = filled();
                t.setVariable(0, i);
                t.setVariable(1, n);
                due("run", t.run(t.state(8, 0, 1, MIN)), 0);
                for (int j = 0; j < 16; j++) {
                    due("element(" + j + ")", t.element(j), j == i ? n : (j * 7 + 5) % 16);
                }
                due("variable(0)", t.variable(0), i);
                due("variable(1)", t.variable(1), n);
            }
            TapeCompiler t = filled();
            t.setVariable(2, i);
            t.run(t.state(8, 2, 2, 0));
            due("element x becomes x", t.element(i), i);
        }
    }

    private static void kind9() {
        for (int v : new int[] {0, 5}) {
            for (int n : new int[] {0, 15}) {
                TapeCompiler t = filled();
                t.setVariable(v, n);
                due("run", t.run(t.state(9, v, MIN, MAX)), 1);
                t.setVariable(v, 7);
                due("output(0)", t.output(0), n);
                due("output(1)", t.output(1), BAD);
            }
        }
    }

    private static void kind10() {
        TapeCompiler t = filled();
        t.state(9, 0, 0, 0);
        t.state(9, 5, 0, 0);
        due("run", t.run(t.state(10, 1, 0, MIN)), 2);
        due("first x", t.output(0), 15);
        due("then y", t.output(1), 10);
        due("the same one twice, run", t.run(t.state(10, 0, 0, 0)), 2);
        due("the same one twice", t.output(1), 10);
    }

    private static void kind11() {
        for (int n : new int[] {0, 1, 8, 15}) {
            TapeCompiler t = filled();
            t.setVariable(0, n);
            t.state(9, 1, 0, 0);
            t.state(9, 2, 0, 0);
            due("run", t.run(t.state(11, 0, 0, 1)), 1);
            due("if " + n, t.output(0), n == 0 ? 12 : 11);
            due("variable(0)", t.variable(0), n);
            t.state(0, 0, n == 0 ? 15 : 0, 0);
            t.state(10, 3, 0, 0);
            t.state(10, 3, 1, 0);
            due("run, x changes", t.run(t.state(11, 0, 4, 5)), 1);
            due("if " + n + ", x changes", t.output(0), n == 0 ? 12 : 11);
        }
    }

    private static void kind12() {
        for (int n : new int[] {0, 1, 14, 15}) {
            TapeCompiler t = filled();
            t.setVariable(0, n);
            t.state(9, 0, 0, 0);
            due(n + " times", t.run(t.state(12, 0, 0, MIN)), n);
            due("variable(0)", t.variable(0), n);
            due(n + " times " + n + " times", t.run(t.state(12, 0, 1, 0)), n * n);
            due("variable(0)", t.variable(0), n);
        }
    }

    private static void kind12ChangesItsX() {
        for (int n : new int[] {1, 15}) {
            for (int to : new int[] {0, 15}) {
                TapeCompiler t = filled();
                t.setVariable(0, n);
                t.state(0, 0, to, 0);
                t.state(9, 0, 0, 0);
                t.state(10, 0, 1, 0);
                due(n + " times, x becomes " + to, t.run(t.state(12, 0, 2, 0)), n);
                due("variable(0)", t.variable(0), to);
            }
        }
        TapeCompiler t = fresh();
        t.setVariable(0, 15);
        t.setVariable(2, 1);
        t.state(2, 1, 2, 0);
        t.state(9, 1, 0, 0);
        t.state(12, 1, 1, 0);
        t.state(10, 0, 2, 0);
        due("1 + 2 + .. + 15 times", t.run(t.state(12, 0, 3, 0)), 120);
    }

    private static void kind13() {
        dueYZ(13, 0, 1, 0);
        dueYZ(13, 0, 15, 0);
        dueYZ(13, 1, 15, 0);
        dueYZ(13, 14, 15, 0);
        dueYZ(13, 15, 15, 1);
        dueYZ(13, 15, 14, 1);
        dueYZ(13, 15, 8, 1);
        dueYZ(13, 14, 7, 2);
        dueYZ(13, 13, 7, 1);
        dueYZ(13, 15, 2, 7);
        dueYZ(13, 15, 1, 15);
        due("15 / itself", result(13, 0, 0, 0, 15, 1, 2), 1);
    }

    private static void kind13ByZero() {
        for (int y : new int[] {0, 1, 8, 15}) {
            dueYZ(13, y, 0, 0);
        }
        due("0 / itself", result(13, 0, 0, 0, 0, 1, 2), 0);
    }

    private static void weightOfKind10() {
        TapeCompiler t = filled();
        t.state(9, 0, 0, 0);
        t.state(10, 0, 0, 0);
        t.state(10, 1, 1, 0);
        t.state(12, 0, 1, 0);
        due("7 + 4 + 1", t.state(10, 2, 3, 0), 4);
        due("weight(4)", t.weight(4), 12);
        due("4 + 7 + 1", t.state(10, 3, 2, 0), 5);
        t.state(12, 0, 3, 0);
        due("7 + 5 + 1", t.state(10, 2, 6, 0), FULL);
        due("5 + 7 + 1", t.state(10, 6, 2, 0), FULL);
        due("12 + 1 + 1", t.state(10, 4, 0, 0), FULL);
        due("1 + 12 + 1", t.state(10, 0, 4, 0), FULL);
        due("12 + 12 + 1", t.state(10, 4, 4, 0), FULL);
    }

    private static void weightOfKind11() {
        TapeCompiler t = filled();
        t.state(9, 0, 0, 0);
        t.state(10, 0, 0, 0);
        t.state(10, 1, 1, 0);
        t.state(12, 0, 1, 0);
        due("7 + 4 + 1", t.state(11, 0, 2, 3), 4);
        due("weight(4)", t.weight(4), 12);
        due("4 + 7 + 1", t.state(11, 0, 3, 2), 5);
        due("weight(5)", t.weight(5), 12);
        t.state(10, 3, 0, 0);
        due("weight(6)", t.weight(6), 6);
        due("7 + 6 + 1", t.state(11, 0, 2, 6), FULL);
        due("6 + 7 + 1", t.state(11, 0, 6, 2), FULL);
        t.state(10, 2, 1, 0);
        due("11 + 1 + 1", t.state(11, 0, 7, 0), FULL);
        due("1 + 11 + 1", t.state(11, 0, 0, 7), FULL);
    }

    private static void weightOfKind12() {
        TapeCompiler t = withWeights();
        due("weight(4)", t.weight(4), 12);
        due("12 + 1", t.state(12, 0, 4, 0), FULL);
        due("11 + 1", t.state(12, 0, 3, 0), 5);
    }

    private static void nestingOfKind11() {
        TapeCompiler t = withNestings();
        due("2 around 1 and 0", t.state(11, 0, 1, 0), 3);
        due("2 around 0 and 1", t.state(11, 0, 0, 1), 4);
        due("2 around 1 and 1", t.state(11, 0, 1, 1), 5);
        due("3 around 2 and 0", t.state(11, 0, 2, 0), FULL);
        due("3 around 0 and 2", t.state(11, 0, 0, 2), FULL);
        due("3 around 2 by kind 11", t.state(11, 0, 3, 0), FULL);
        due("3 around 2 by kind 11, z", t.state(11, 0, 0, 4), FULL);
    }

    private static void nestingOfKind12() {
        TapeCompiler t = withNestings();
        due("3 around 2", t.state(12, 0, 2, 0), FULL);
        due("1 around 0", t.state(12, 0, 0, 0), 3);
        due("2 around 1", t.state(12, 0, 3, 0), 4);
        t.state(11, 0, 0, 0);
        due("2 around 1 by kind 11", t.state(12, 0, 5, 0), 6);
        due("3 around 2", t.state(12, 0, 6, 0), FULL);
    }

    private static void greatestNestingIsCarriedOut() {
        for (int a : new int[] {0, 1, 15}) {
            for (int b : new int[] {0, 1, 15}) {
                for (int inner = 11; inner <= 12; inner++) {
                    int[] within = inner == 12 ? times(b, 15) : b != 0 ? times(1, 15) : times(1, 14);
                    dueNested(a, b, inner, 12, 5, 0, times(a * within.length, within.length == 0 ? 0 : within[0]));
                    dueNested(a, b, inner, 11, 5, 4, a != 0 ? within : times(1, 13));
                    dueNested(a, b, inner, 11, 4, 5, a != 0 ? times(1, 13) : within);
                }
            }
        }
    }

    private static int[] times(int n, int number) {
        int[] numbers = new int[n];
        for (int k = 0; k < n; k++) {
            numbers[k] = number;
        }
        return numbers;
    }

    /** Inmost the last element, 15, is fetched and printed, or else 14; statement 4 prints 13. */
    private static void dueNested(int a, int b, int inner, int outer, int y, int z, int[] want) {
        TapeCompiler t = fresh();
        int[] variables = {a, b, 15, 0, 14, 13};
        t.setElement(15, 15);
        t.state(7, 3, 2, 0);
        t.state(9, 3, 0, 0);
        t.state(9, 4, 0, 0);
        t.state(10, 0, 1, 0);
        t.state(9, 5, 0, 0);
        t.state(inner, 1, 3, 2);
        t.state(outer, 0, y, z);
        String what = "kind " + inner + " for " + b + " in kind " + outer + " for " + a;
        for (int time = 1; time <= 2; time++) {
            for (int v = 0; v < 6; v++) {
                t.setVariable(v, variables[v]);
            }
            due(what, t.run(6), want.length);
            for (int k = 0; k < 40 && k < want.length; k++) {
                due(what + ", output(" + k + ")", t.output(k), want[k]);
            }
            for (int i = 0; i < 16; i++) {
                due(what + ", element(" + i + ")", t.element(i), i == 15 ? 15 : 0);
            }
        }
    }

    /** A kind that got in the way of the turns or of the choices around it would print too much or too little. */
    private static void eachKindInmost() {
        for (int kind = 0; kind < 14; kind++) {
            if (kind < 10 || kind > 12) {
                for (int n : new int[] {0, 1, 15}) {
                    for (int inner = 11; inner <= 12; inner++) {
                        dueInmost(kind, n, inner, 11);
                        dueInmost(kind, n, inner, 12);
                    }
                }
            }
        }
    }

    /** Statement 2 is the kind in question and prints 7; where a choice goes the other way, statement 1 prints 7. */
    private static void dueInmost(int kind, int n, int inner, int outer) {
        int inmost = kind == 9 ? 2 : 1;
        int then = inner == 12 ? n * inmost : n != 0 ? inmost : 1;
        int otherwise = inner == 12 ? n * inmost : n == 0 ? inmost : 1;
        String what = "kind " + kind + " in kind " + inner + " in kind " + outer + " for " + n;
        TapeCompiler t = inmost(kind, n);
        t.state(inner, 1, 2, 1);
        t.state(outer, 0, 3, 1);
        due(what, t.run(4), outer == 12 ? n * then : n != 0 ? then : 1);
        TapeCompiler u = inmost(kind, n);
        u.state(inner, 1, inner == 12 ? 2 : 1, 2);
        u.state(outer, 0, outer == 12 ? 3 : 1, 3);
        due(what + ", else", u.run(4), outer == 12 ? n * otherwise : n == 0 ? otherwise : 1);
    }

    private static TapeCompiler inmost(int kind, int n) {
        TapeCompiler t = filled();
        int[] variables = {n, n, 9, 15, 2, 7};
        for (int v = 0; v < 6; v++) {
            t.setVariable(v, variables[v]);
        }
        t.state(kind, 2, 3, 4);
        t.state(9, 5, 0, 0);
        t.state(10, 0, 1, 0);
        return t;
    }

    private static void nestingOfKind10() {
        TapeCompiler t = withNestings();
        due("2 of 2 and 0", t.state(10, 2, 0, 0), 3);
        due("2 of 0 and 2", t.state(10, 0, 2, 0), 4);
        due("2 of 2 and 2", t.state(10, 2, 2, 0), 5);
        due("3 around the first", t.state(12, 0, 3, 0), FULL);
        due("3 around the second", t.state(12, 0, 4, 0), FULL);
        due("3 around the third", t.state(12, 0, 5, 0), FULL);
        due("1 of 1 and 1", t.state(10, 1, 1, 0), 6);
        due("2 around it", t.state(12, 0, 6, 0), 7);
        due("0 of 0 and 0", t.state(10, 0, 0, 0), 8);
        due("1 around it", t.state(12, 0, 8, 0), 9);
        due("2 around that", t.state(12, 0, 9, 0), 10);
        due("3 around that", t.state(12, 0, 10, 0), FULL);
    }

    /** x and y are 2 in the statements in question: the number of a variable, not of statement 2 with its nesting. */
    private static void nestingOfOthers() {
        for (int kind = 0; kind < 14; kind++) {
            if (kind < 10 || kind > 12) {
                TapeCompiler t = withNestings();
                due("kind " + kind, t.state(kind, 2, 2, 2), 3);
                due("kind " + kind + ", weight", t.weight(3), 1);
                due("1 around kind " + kind, t.state(12, 2, 3, 2), 4);
                due("2 around kind " + kind, t.state(11, 2, 4, 3), 5);
                due("3 around kind " + kind, t.state(12, 2, 5, 2), FULL);
            }
        }
    }
}
