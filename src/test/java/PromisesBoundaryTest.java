/**
 * One test for each sentence of the promises that names a boundary case: too small, too large, empty, full,
 * a wrap-around, a refused call.
 */
public final class PromisesBoundaryTest extends Sentences {
    /** For each kind what x, y and z must be: v a variable, n a number, s a statement, - nothing. */
    private static final String[] OPERANDS = {
        "vn-", "vv-", "vv-", "vv-", "vvv", "vvv", "vvv", "vv-", "vv-", "v--", "ss-", "vss", "vs-", "vvv"
    };

    public static void main(String[] args) {
        atEachLevel(() -> {
            promises1To4();
            promise5();
            promises6To9();
            promises10To12();
            promise13();
        });
    }

    private static void promises1To4() {
        holds("1: No statements", PromisesBoundaryTest::newObjectHasNoStatements);
        holds("1: No statements (and no output)", PromisesBoundaryTest::newObjectHasNoOutput);
        holds("2: 40 are there: FULL", PromisesBoundaryTest::fullAt40);
        holds("2: tested in this order: FULL before BAD", PromisesBoundaryTest::fullBeforeBad);
        holds("2: kind outside 0..13: BAD", PromisesBoundaryTest::kindOutside);
        holds("2: x, y or z not as it must be: BAD", PromisesBoundaryTest::operandOutside);
        holds("2: x, y or z not as it must be: BAD (statements)", PromisesBoundaryTest::statementOutside);
        holds("2: those that a kind does not have play no part", PromisesBoundaryTest::operandsThatPlayNoPart);
        holds("2: tested in this order: BAD before weight and nesting", PromisesBoundaryTest::badBeforeTooGreat);
        holds("2: the weight or the nesting would be too great: FULL", PromisesBoundaryTest::tooGreat);
        holds("2: Else answers its number (a refused one has none)", PromisesBoundaryTest::refusedStateChangesNothing);
        holds("3: Takes all statements away (none there)", PromisesBoundaryTest::dropOfNone);
        holds("3: Takes all statements away (40 there)", PromisesBoundaryTest::dropOf40);
        holds("4: weight, BAD if there is none", PromisesBoundaryTest::weightOfNone);
        holds("4: weight (least and greatest)", PromisesBoundaryTest::leastAndGreatestWeight);
    }

    private static void promise5() {
        holds("5: the output is made empty", PromisesBoundaryTest::outputIsMadeEmpty);
        holds("5: There is none: BAD", PromisesBoundaryTest::runOfNone);
        holds("5: There is none: BAD (first and last are there)", PromisesBoundaryTest::runOfFirstAndLast);
        holds("5: Else answers the number of numbers in the output", PromisesBoundaryTest::runAnswersHowMany);
        holds("5: Else answers the number of numbers (the heaviest)", PromisesBoundaryTest::heaviestRuns);
    }

    private static void promises6To9() {
        holds("6: BAD for v outside 0..5", PromisesBoundaryTest::variableOutside);
        holds("7: v outside 0..5: refused, answers false", PromisesBoundaryTest::setVariableOutside);
        holds("7: x outside 0..15: refused, answers false", PromisesBoundaryTest::setVariableToNoNumber);
        holds("7: Else true", PromisesBoundaryTest::setVariableInside);
        holds("8: BAD for i outside 0..15", PromisesBoundaryTest::elementOutside);
        holds("9: i outside 0..15: refused, answers false", PromisesBoundaryTest::setElementOutside);
        holds("9: x outside 0..15: refused, answers false", PromisesBoundaryTest::setElementToNoNumber);
        holds("9: Else true", PromisesBoundaryTest::setElementInside);
    }

    private static void promises10To12() {
        holds("10: the output of the latest run (before any)", PromisesBoundaryTest::printedBeforeAnyRun);
        holds("10: the output of the latest run (empty)", PromisesBoundaryTest::printedOfAnEmptyOutput);
        holds("10: the number of numbers (above 39)", PromisesBoundaryTest::printedAbove39);
        holds("11: Number k of the output, from 0", PromisesBoundaryTest::outputFromZero);
        holds("11: BAD if there is none", PromisesBoundaryTest::outputOfNone);
        holds("11: BAD if there is none (of a longer, earlier output)", PromisesBoundaryTest::outputAfterALongerOne);
        holds("11: or k is above 39", PromisesBoundaryTest::outputAbove39);
        holds("12: k outside 0..1: refused, answers false", PromisesBoundaryTest::levelOutside);
        holds("12: Else true", PromisesBoundaryTest::levelInside);
        holds("12: It shows in no answer", PromisesBoundaryTest::levelShowsNowhere);
    }

    private static void promise13() {
        holds("13: run: BAD is tested first and changes nothing", PromisesBoundaryTest::badRunChangesNothing);
        holds("13: the output stays that of the latest run", PromisesBoundaryTest::badRunLeavesTheOutput);
        holds("13: drop leaves the output, the variables and the array", PromisesBoundaryTest::dropLeavesTheRest);
        holds("13: in kind 7 the value of variable y", PromisesBoundaryTest::kind7GoesByTheValue);
        holds("13: in kind 8 that of variable x", PromisesBoundaryTest::kind8GoesByTheValue);
        holds("13: those that it names itself (kind 10: both)", PromisesBoundaryTest::sameStatementTwice);
    }

    private static void newObjectHasNoStatements() {
        TapeCompiler t = new TapeCompiler();
        due("weight(0)", t.weight(0), BAD);
        due("run(0)", t.run(0), BAD);
        due("state(10, 0, 0, 0)", t.state(10, 0, 0, 0), BAD);
        due("state(11, 0, 0, 0)", t.state(11, 0, 0, 0), BAD);
        due("state(12, 0, 0, 0)", t.state(12, 0, 0, 0), BAD);
        due("drop()", t.drop(), 0);
    }

    private static void newObjectHasNoOutput() {
        TapeCompiler t = new TapeCompiler();
        due("printed()", t.printed(), 0);
        for (int k : new int[] {MIN, -1, 0, 1, 39, 40, MAX}) {
            due("output(" + k + ")", t.output(k), BAD);
        }
    }

    private static void fullAt40() {
        TapeCompiler t = with40();
        String before = all(t);
        for (int kind = 0; kind < 14; kind++) {
            due("kind " + kind + " as the 41st", t.state(kind, 0, 0, 0), FULL);
        }
        due("all answers", all(t), before);
        due("drop()", t.drop(), 40);
    }

    private static void fullBeforeBad() {
        TapeCompiler t = with40();
        for (int kind : new int[] {MIN, -1, 14, MAX}) {
            due("kind " + kind + " as the 41st", t.state(kind, 0, 0, 0), FULL);
        }
        for (int kind = 0; kind < 14; kind++) {
            due("kind " + kind + " with x -1 as the 41st", t.state(kind, -1, 0, 0), FULL);
            due("kind " + kind + " with y and z 40 as the 41st", t.state(kind, 0, 40, 40), FULL);
        }
        t.drop();
        due("state(-1, 0, 0, 0) with room", t.state(-1, 0, 0, 0), BAD);
    }

    private static void kindOutside() {
        TapeCompiler t = withWeights();
        for (int kind : new int[] {MIN, -14, -1, 14, 15, 16, 256, MAX}) {
            due("kind " + kind, t.state(kind, 0, 0, 0), BAD);
        }
        due("kind 0", t.state(0, 0, 0, 0), 5);
        due("kind 13", t.state(13, 0, 0, 0), 6);
    }

    private static void operandOutside() {
        for (int kind = 0; kind < 14; kind++) {
            for (int place = 0; place < 3; place++) {
                char form = OPERANDS[kind].charAt(place);
                if (form == 'v' || form == 'n') {
                    int last = form == 'v' ? 5 : 15;
                    for (int value : new int[] {MIN, -16, -1, last + 1, 40, MAX}) {
                        dueOperand(kind, place, value, BAD);
                    }
                    dueOperand(kind, place, 0, 7);
                    dueOperand(kind, place, last, 7);
                }
            }
        }
    }

    /** Seven statements are there; so 6 is the last to be named, and 5 the last variable. */
    private static void dueOperand(int kind, int place, int value, int want) {
        TapeCompiler t = fresh();
        for (int s = 0; s < 7; s++) {
            t.state(9, 0, 0, 0);
        }
        int[] o = {0, 0, 0};
        o[place] = value;
        due("state(" + kind + ", " + o[0] + ", " + o[1] + ", " + o[2] + ")", t.state(kind, o[0], o[1], o[2]), want);
        due("drop()", t.drop(), want == BAD ? 7 : 8);
    }

    private static void statementOutside() {
        for (int kind = 10; kind <= 12; kind++) {
            for (int place = 0; place < 3; place++) {
                if (OPERANDS[kind].charAt(place) == 's') {
                    for (int value : new int[] {MIN, -1, 7, 8, 39, 40, MAX}) {
                        dueOperand(kind, place, value, BAD);
                    }
                    dueOperand(kind, place, 0, 7);
                    dueOperand(kind, place, 6, 7);
                }
            }
        }
        TapeCompiler t = with40();
        t.drop();
        t.state(9, 0, 0, 0);
        due("a statement that drop took away", t.state(10, 0, 1, 0), BAD);
        due("a statement that drop took away, kind 12", t.state(12, 0, 39, 0), BAD);
    }

    /** Neither as something wrong nor, statement 4 weighing 12 and 2 being nested twice, as something heavy. */
    private static void operandsThatPlayNoPart() {
        for (int kind = 0; kind < 14; kind++) {
            for (int place = 1; place < 3; place++) {
                if (OPERANDS[kind].charAt(place) == '-') {
                    for (int value : new int[] {MIN, -1, 6, 7, 16, 40, MAX}) {
                        dueOperand(kind, place, value, 7);
                    }
                }
            }
        }
        TapeCompiler t = withWeights();
        due("kind 10 beside a weight of 12", t.state(10, 0, 0, 4), 5);
        due("its weight", t.weight(5), 3);
        due("kind 12 with an x of 4 beside a weight of 12", t.state(12, 4, 0, 4), 6);
        due("its weight", t.weight(6), 2);
        due("kind 11 with an x of 4", t.state(11, 4, 0, 0), 7);
        due("its weight", t.weight(7), 3);
        TapeCompiler u = withNestings();
        u.state(10, 0, 0, 2);
        u.state(12, 2, 3, 2);
        due("nesting 2 beside a nesting of 2", u.state(12, 2, 4, 2), 5);
        due("nesting 3", u.state(12, 0, 5, 0), FULL);
    }

    private static void badBeforeTooGreat() {
        TapeCompiler t = withWeights();
        due("kind 10, too heavy in x, no y", t.state(10, 4, 5, 0), BAD);
        due("kind 10, no x, too heavy in y", t.state(10, -1, 4, 0), BAD);
        due("kind 11, too heavy in y, no z", t.state(11, 0, 4, 5), BAD);
        due("kind 11, no x, too heavy in z", t.state(11, 6, 0, 4), BAD);
        due("kind 12, no x, too heavy in y", t.state(12, -1, 4, 0), BAD);
        TapeCompiler u = withNestings();
        due("kind 11, nested too deep in y, no z", u.state(11, 0, 2, 3), BAD);
        due("kind 11, no y, nested too deep in z", u.state(11, 0, -1, 2), BAD);
        due("kind 12, no x, nested too deep in y", u.state(12, 6, 2, 0), BAD);
    }

    private static void tooGreat() {
        TapeCompiler t = withWeights();
        due("the weight alone", t.state(10, 3, 0, 0), FULL);
        due("the weight and the nesting", t.state(12, 0, t.state(12, 0, 3, 0), 0), FULL);
        TapeCompiler u = withNestings();
        due("the nesting alone", u.state(12, 0, 2, 0), FULL);
        due("neither", u.state(10, 2, 2, 0), 3);
        due("its weight", u.weight(3), 7);
    }

    private static void refusedStateChangesNothing() {
        TapeCompiler t = withWeights();
        t.run(3);
        String before = all(t);
        due("a wrong kind", t.state(14, 0, 0, 0), BAD);
        due("a wrong operand", t.state(0, 1, 16, 0), BAD);
        due("no such statement", t.state(10, 0, 5, 0), BAD);
        due("too heavy", t.state(10, 4, 4, 0), FULL);
        due("all answers", all(t), before);
        due("the next number", t.state(9, 5, 0, 0), 5);
        due("run(5)", t.run(5), 1);
        due("output(0)", t.output(0), 15);
        due("run(4)", t.run(4), 60);
        due("drop()", t.drop(), 6);
    }

    private static void dropOfNone() {
        TapeCompiler t = fresh();
        due("drop()", t.drop(), 0);
        due("drop() again", t.drop(), 0);
        due("state", t.state(9, 0, 0, 0), 0);
        due("drop() of one", t.drop(), 1);
        due("drop() of none", t.drop(), 0);
        due("state(14, 0, 0, 0)", t.state(14, 0, 0, 0), BAD);
        due("drop() after a refused one", t.drop(), 0);
    }

    private static void dropOf40() {
        TapeCompiler t = with40();
        due("drop()", t.drop(), 40);
        for (int s = 0; s < 40; s++) {
            due("weight(" + s + ")", t.weight(s), BAD);
            due("run(" + s + ")", t.run(s), BAD);
        }
        for (int s = 0; s < 40; s++) {
            due("room again", t.state(0, 0, 1, 0), s);
        }
        due("the 41st again", t.state(0, 0, 1, 0), FULL);
        due("run(39)", t.run(39), 0);
        due("drop() again", t.drop(), 40);
    }

    private static void weightOfNone() {
        TapeCompiler t = fresh();
        due("weight(0) of none", t.weight(0), BAD);
        t.state(9, 0, 0, 0);
        t.state(9, 0, 0, 0);
        for (int s : new int[] {MIN, -1, 2, 39, 40, 41, MAX}) {
            due("weight(" + s + ") of two", t.weight(s), BAD);
        }
        due("weight(1) of two", t.weight(1), 1);
        TapeCompiler u = with40();
        due("weight(39) of 40", u.weight(39), 1);
        due("weight(40) of 40", u.weight(40), BAD);
        due("weight(-1) of 40", u.weight(-1), BAD);
        u.drop();
        due("weight(0) after drop", u.weight(0), BAD);
        u.state(9, 0, 0, 0);
        due("weight(1) after drop and one more", u.weight(1), BAD);
    }

    private static void leastAndGreatestWeight() {
        TapeCompiler t = withWeights();
        int[] weights = {1, 3, 7, 11, 12};
        for (int s = 0; s < 5; s++) {
            due("weight(" + s + ")", t.weight(s), weights[s]);
        }
        t.drop();
        due("another statement 0", t.state(9, 0, 0, 0), 0);
        due("another statement 1", t.state(9, 0, 0, 0), 1);
        due("its weight, not the old one's", t.weight(1), 1);
    }

    private static void outputIsMadeEmpty() {
        TapeCompiler t = filled();
        t.state(9, 0, 0, 0);
        t.state(10, 0, 0, 0);
        t.state(0, 0, 3, 0);
        due("run(1)", t.run(1), 2);
        due("run(1) again", t.run(1), 2);
        due("output(2)", t.output(2), BAD);
        due("run(0)", t.run(0), 1);
        due("printed()", t.printed(), 1);
        due("output(1)", t.output(1), BAD);
        due("run(2)", t.run(2), 0);
        due("printed()", t.printed(), 0);
        due("output(0)", t.output(0), BAD);
    }

    private static void runOfNone() {
        TapeCompiler t = filled();
        due("run(0) of none", t.run(0), BAD);
        t.state(9, 0, 0, 0);
        for (int s : new int[] {MIN, -1, 1, 39, 40, 41, MAX}) {
            due("run(" + s + ") of one", t.run(s), BAD);
        }
        TapeCompiler u = with40();
        due("run(40) of 40", u.run(40), BAD);
        due("run(-1) of 40", u.run(-1), BAD);
        u.drop();
        due("run(39) after drop", u.run(39), BAD);
        due("run(0) after drop", u.run(0), BAD);
    }

    private static void runOfFirstAndLast() {
        TapeCompiler t = with40();
        due("run(0)", t.run(0), 1);
        due("output(0)", t.output(0), 10);
        due("run(39)", t.run(39), 1);
        due("output(0)", t.output(0), 13);
    }

    private static void runAnswersHowMany() {
        TapeCompiler t = printer();
        due("0 numbers", print(t, 4, 0, 15), 0);
        due("0 numbers the other way", print(t, 4, 15, 0), 0);
        due("1 number", print(t, 4, 1, 1), 1);
        due("39 numbers", print(t, 4, 13, 3), 39);
        due("40 numbers", print(t, 4, 8, 5), 40);
        due("41 numbers", print(t, 5, 8, 5), 41);
        due("225 numbers", print(t, 4, 15, 15), 225);
        due("226 numbers", print(t, 5, 15, 15), 226);
    }

    /** No statement prints more than five numbers in two repeats of 15, and none is heavier than 12. */
    private static void heaviestRuns() {
        TapeCompiler t = fresh();
        t.setVariable(1, 15);
        t.state(9, 0, 0, 0);
        t.state(10, 0, 0, 0);
        t.state(10, 1, 1, 0);
        t.state(10, 2, 0, 0);
        t.state(12, 1, 3, 0);
        t.state(12, 1, 4, 0);
        due("the most numbers", t.run(5), 1125);
        t.drop();
        t.setVariable(0, 15);
        t.setElement(15, 15);
        t.state(7, 2, 0, 0);
        t.state(8, 0, 2, 0);
        t.state(13, 3, 0, 1);
        t.state(10, 0, 1, 0);
        t.state(10, 3, 3, 0);
        t.state(10, 4, 2, 0);
        t.state(12, 1, 5, 0);
        t.state(12, 1, 6, 0);
        due("the longest walks", t.run(7), 0);
        due("element(15)", t.element(15), 15);
        due("variable(2)", t.variable(2), 15);
        due("variable(3)", t.variable(3), 1);
    }

    private static void variableOutside() {
        TapeCompiler t = filled();
        for (int v : new int[] {MIN, -16, -1, 6, 7, 16, 128, MAX}) {
            due("variable(" + v + ")", t.variable(v), BAD);
        }
        due("variable(0)", t.variable(0), 10);
        due("variable(5)", t.variable(5), 15);
    }

    private static void setVariableOutside() {
        TapeCompiler t = withWeights();
        t.run(3);
        String before = all(t);
        for (int v : new int[] {MIN, -16, -1, 6, 7, 16, 128, MAX}) {
            due("setVariable(" + v + ", 0)", t.setVariable(v, 0), false);
            due("setVariable(" + v + ", 15)", t.setVariable(v, 15), false);
            due("setVariable(" + v + ", 16)", t.setVariable(v, 16), false);
        }
        due("all answers", all(t), before);
        due("run(3)", t.run(3), 6);
    }

    private static void setVariableToNoNumber() {
        TapeCompiler t = filled();
        String before = all(t);
        for (int v = 0; v < 6; v++) {
            for (int x : new int[] {MIN, -16, -1, 16, 17, 31, 256, MAX}) {
                due("setVariable(" + v + ", " + x + ")", t.setVariable(v, x), false);
            }
        }
        due("all answers", all(t), before);
    }

    private static void setVariableInside() {
        TapeCompiler t = fresh();
        for (int v : new int[] {0, 5}) {
            for (int x : new int[] {15, 0, 15}) {
                due("setVariable(" + v + ", " + x + ")", t.setVariable(v, x), true);
                due("variable(" + v + ")", t.variable(v), x);
            }
        }
        for (int v = 1; v < 5; v++) {
            due("variable(" + v + ")", t.variable(v), 0);
        }
        due("element(0)", t.element(0), 0);
        due("element(15)", t.element(15), 0);
    }

    private static void elementOutside() {
        TapeCompiler t = filled();
        for (int i : new int[] {MIN, -16, -1, 16, 17, 32, 1 << 30, MAX}) {
            due("element(" + i + ")", t.element(i), BAD);
        }
        due("element(0)", t.element(0), 5);
        due("element(15)", t.element(15), (15 * 7 + 5) % 16);
    }

    private static void setElementOutside() {
        TapeCompiler t = withWeights();
        t.run(3);
        String before = all(t);
        for (int i : new int[] {MIN, -16, -1, 16, 17, 32, 1 << 30, MAX}) {
            due("setElement(" + i + ", 0)", t.setElement(i, 0), false);
            due("setElement(" + i + ", 15)", t.setElement(i, 15), false);
            due("setElement(" + i + ", 16)", t.setElement(i, 16), false);
        }
        due("all answers", all(t), before);
    }

    private static void setElementToNoNumber() {
        TapeCompiler t = filled();
        String before = all(t);
        for (int i = 0; i < 16; i++) {
            for (int x : new int[] {MIN, -16, -1, 16, 17, 31, 256, MAX}) {
                due("setElement(" + i + ", " + x + ")", t.setElement(i, x), false);
            }
        }
        due("all answers", all(t), before);
    }

    private static void setElementInside() {
        TapeCompiler t = fresh();
        for (int i : new int[] {0, 15}) {
            for (int x : new int[] {15, 0, 15}) {
                due("setElement(" + i + ", " + x + ")", t.setElement(i, x), true);
                due("element(" + i + ")", t.element(i), x);
            }
        }
        for (int i = 1; i < 15; i++) {
            due("element(" + i + ")", t.element(i), 0);
        }
        for (int v = 0; v < 6; v++) {
            due("variable(" + v + ")", t.variable(v), 0);
        }
    }

    private static void printedBeforeAnyRun() {
        TapeCompiler t = fresh();
        due("printed()", t.printed(), 0);
        t.state(9, 0, 0, 0);
        due("printed() with a statement made", t.printed(), 0);
        due("run(1)", t.run(1), BAD);
        due("printed() after a refused run", t.printed(), 0);
    }

    private static void printedOfAnEmptyOutput() {
        TapeCompiler t = filled();
        t.state(9, 0, 0, 0);
        t.state(0, 0, 0, 0);
        t.state(12, 0, 0, 0);
        t.run(0);
        due("printed()", t.printed(), 1);
        t.run(1);
        due("printed() after a run without numbers", t.printed(), 0);
        t.run(0);
        t.run(2);
        due("printed() after 0 turns", t.printed(), 0);
    }

    private static void printedAbove39() {
        TapeCompiler t = printer();
        int[][] runs = {{4, 13, 3, 39}, {4, 8, 5, 40}, {5, 8, 5, 41}, {4, 15, 15, 225}, {5, 15, 15, 226}, {4, 1, 1, 1}};
        for (int[] r : runs) {
            print(t, r[0], r[1], r[2]);
            due("printed() of " + r[3], t.printed(), r[3]);
        }
    }

    private static void outputFromZero() {
        TapeCompiler t = printer();
        due("run", print(t, 4, 8, 5), 40);
        t.setVariable(0, 9);
        for (int k = 0; k < 40; k++) {
            due("output(" + k + ")", t.output(k), (k + 1) % 16);
        }
        due("run", print(t, 4, 1, 1), 1);
        due("output(0) of one", t.output(0), 1);
    }

    private static void outputOfNone() {
        TapeCompiler t = printer();
        due("run", print(t, 4, 0, 0), 0);
        due("output(0) of none", t.output(0), BAD);
        due("run", print(t, 4, 3, 1), 3);
        due("output(2) of three", t.output(2), 3);
        for (int k : new int[] {MIN, -1, 3, 4, 39, 40, MAX}) {
            due("output(" + k + ") of three", t.output(k), BAD);
        }
        due("run", print(t, 4, 13, 3), 39);
        due("output(38) of 39", t.output(38), 39 % 16);
        due("output(39) of 39", t.output(39), BAD);
    }

    private static void outputAfterALongerOne() {
        TapeCompiler t = printer();
        due("run", print(t, 4, 15, 15), 225);
        due("run", print(t, 4, 2, 1), 2);
        for (int k = 2; k < 42; k++) {
            due("output(" + k + ") of two", t.output(k), BAD);
        }
        due("run", print(t, 4, 0, 0), 0);
        due("output(0) of none", t.output(0), BAD);
        due("output(1) of none", t.output(1), BAD);
    }

    private static void outputAbove39() {
        TapeCompiler t = printer();
        due("run", print(t, 5, 8, 5), 41);
        due("output(39) of 41", t.output(39), 40 % 16);
        due("output(40) of 41", t.output(40), BAD);
        due("run", print(t, 4, 15, 15), 225);
        for (int k = 0; k < 40; k++) {
            due("output(" + k + ") of 225", t.output(k), (k + 1) % 16);
        }
        for (int k : new int[] {MIN, -1, 40, 41, 63, 64, 224, 225, MAX}) {
            due("output(" + k + ") of 225", t.output(k), BAD);
        }
    }

    private static void levelOutside() {
        TapeCompiler t = withWeights();
        t.run(3);
        String before = all(t);
        for (int k : new int[] {MIN, -2, -1, 2, 3, 256, MAX}) {
            due("level(" + k + ")", t.level(k), false);
        }
        due("all answers", all(t), before);
        due("run(4)", t.run(4), 60);
    }

    private static void levelInside() {
        TapeCompiler t = withWeights();
        t.run(3);
        String before = all(t);
        for (int k : new int[] {0, 1, 1, 0, 0}) {
            due("level(" + k + ")", t.level(k), true);
        }
        due("all answers", all(t), before);
    }

    /** Twelve rounds of every simple kind in a row; the levels in which they run are given bit by bit. */
    private static void levelShowsNowhere() {
        String due = afterRoundsAt(0);
        due("all answers at level 1", afterRoundsAt(-1), due);
        due("all answers at levels 0 and 1 by turns", afterRoundsAt(0x555), due);
        due("all answers at a level changed halfway", afterRoundsAt(0x03F), due);
    }

    private static String afterRoundsAt(int levels) {
        TapeCompiler t = filled();
        int[][] simple = {
            {2, 0, 1, 2}, {4, 1, 0, 3}, {3, 2, 0, 0}, {13, 3, 5, 1}, {5, 4, 2, 3}, {7, 5, 0, 0}, {8, 1, 5, 0}, {6, 2, 4, 5}, {9, 0, 0, 0}
        };
        for (int[] s : simple) {
            t.state(s[0], s[1], s[2], s[3]);
        }
        t.state(10, 8, 0, 0);
        t.state(12, 1, 9, 0);
        t.state(11, 2, 10, 5);
        for (int round = 0; round < 12; round++) {
            t.level(levels >> round & 1);
            for (int s = 0; s < 12; s++) {
                t.run(s);
            }
            t.run(11);
        }
        return all(t);
    }

    private static void badRunChangesNothing() {
        TapeCompiler t = withWeights();
        t.run(3);
        String before = all(t);
        for (int s : new int[] {MIN, -1, 5, 39, 40, MAX}) {
            due("run(" + s + ")", t.run(s), BAD);
        }
        due("all answers", all(t), before);
        due("drop()", t.drop(), 5);
    }

    private static void badRunLeavesTheOutput() {
        TapeCompiler t = printer();
        due("run", print(t, 4, 8, 5), 40);
        due("run(6)", t.run(6), BAD);
        due("printed()", t.printed(), 40);
        t.drop();
        due("run(0) after drop", t.run(0), BAD);
        due("printed()", t.printed(), 40);
        for (int k = 0; k < 40; k++) {
            due("output(" + k + ")", t.output(k), (k + 1) % 16);
        }
    }

    private static void dropLeavesTheRest() {
        TapeCompiler t = withWeights();
        t.run(3);
        String before = values(t);
        due("drop()", t.drop(), 5);
        due("output, variables and array", values(t), before);
        due("drop() of none", t.drop(), 0);
        due("output, variables and array", values(t), before);
    }

    private static void kind7GoesByTheValue() {
        TapeCompiler t = fresh();
        t.setVariable(4, 15);
        t.setElement(4, 1);
        t.setElement(15, 2);
        t.state(7, 5, 4, 0);
        t.run(0);
        due("element 15, not 4", t.variable(5), 2);
        t.setVariable(4, 0);
        t.setElement(0, 3);
        t.run(0);
        due("element 0, not 4", t.variable(5), 3);
    }

    private static void kind8GoesByTheValue() {
        TapeCompiler t = fresh();
        t.setVariable(4, 15);
        t.setVariable(5, 9);
        t.state(8, 4, 5, 0);
        t.run(0);
        due("element(15)", t.element(15), 9);
        due("element(4)", t.element(4), 0);
        t.setVariable(4, 0);
        t.run(0);
        due("element(0)", t.element(0), 9);
        due("element(4)", t.element(4), 0);
    }

    /** Statement 2 weighs 7: it names statement 1 twice, and statement 0, which lies in that, not at all. */
    private static void sameStatementTwice() {
        TapeCompiler t = withWeights();
        due("weight(1)", t.weight(1), 3);
        due("weight(2)", t.weight(2), 7);
        due("run(1)", t.run(1), 2);
        due("run(2)", t.run(2), 4);
        t.state(12, 0, 1, 0);
        t.state(10, 5, 0, 0);
        due("weight(6)", t.weight(6), 6);
        due("the same one of weight 6 twice", t.state(10, 6, 6, 0), FULL);
        due("the same one of weight 4 twice", t.state(10, 5, 5, 0), 7);
        due("weight(7)", t.weight(7), 9);
    }
}
