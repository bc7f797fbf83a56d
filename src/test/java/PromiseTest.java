/** One method for each promise of the document: ordinary calls, the edges it names, and wrong inputs. */
public final class PromiseTest {
    private static final int BAD = -1;
    private static final int FULL = -2;
    private static final int[] OUTSIDE = {-1, Integer.MIN_VALUE, Integer.MAX_VALUE, 1000};
    private static int wrong = 0;

    public static void main(String[] args) {
        for (int level = -1; level <= 1; level++) {
            promise1NewObject(level);
            promise2Operands(level);
            promise2Order(level);
            promise2WeightAndNesting(level);
            promise3Drop(level);
            promise4Weight(level);
            promise5Arithmetic(level);
            promise5Array(level);
            promise5Control(level);
            promise5SharedOperands(level);
            promise5Output(level);
            promise6And7Variables(level);
            promise8And9Elements(level);
            promise10And11Output(level);
            promise13Order(level);
        }
        promise12Level();
        System.out.println(wrong == 0 ? "all promises hold" : wrong + " answers are not as due");
        if (wrong != 0) {
            System.exit(1);
        }
    }

    private static void due(String what, int got, int want) {
        if (got != want) {
            wrong++;
            System.out.println(what + " answered " + got + ", due is " + want);
        }
    }

    private static void due(String what, boolean got, boolean want) {
        if (got != want) {
            wrong++;
            System.out.println(what + " answered " + got + ", due is " + want);
        }
    }

    /** Level -1 leaves a new object as it is made. */
    private static TapeCompiler fresh(int level) {
        TapeCompiler t = new TapeCompiler();
        if (level >= 0) {
            due("level(" + level + ")", t.level(level), true);
        }
        return t;
    }

    private static void promise1NewObject(int level) {
        TapeCompiler t = fresh(level);
        due("1: BAD", TapeCompiler.BAD, BAD);
        due("1: FULL", TapeCompiler.FULL, FULL);
        due("1: printed", t.printed(), 0);
        due("1: output(0)", t.output(0), BAD);
        due("1: weight(0)", t.weight(0), BAD);
        due("1: run(0)", t.run(0), BAD);
        for (int v = 0; v < 6; v++) {
            due("1: variable " + v, t.variable(v), 0);
        }
        for (int i = 0; i < 16; i++) {
            due("1: element " + i, t.element(i), 0);
        }
        due("1: drop", t.drop(), 0);
        due("1: first number", t.state(9, 0, 0, 0), 0);
    }

    /** What each operand must be: v a variable, n a number, s a statement, - nothing. */
    private static final String[] OPERANDS = {
        "vn-", "vv-", "vv-", "vv-", "vvv", "vvv", "vvv", "vv-", "vv-", "v--", "ss-", "vss", "vs-", "vvv"
    };

    private static int limit(char operand) {
        return operand == 'v' ? 6 : operand == 'n' ? 16 : 2;
    }

    private static TapeCompiler withTwo(int level) {
        TapeCompiler t = fresh(level);
        t.state(9, 0, 0, 0);
        t.state(9, 1, 0, 0);
        return t;
    }

    private static void promise2Operands(int level) {
        for (int kind = 0; kind < 14; kind++) {
            String form = OPERANDS[kind];
            for (int place = 0; place < 3; place++) {
                int limit = limit(form.charAt(place));
                for (int value = -2; value <= 17; value++) {
                    tryOperand(level, kind, place, value, form.charAt(place) == '-' || value >= 0 && value < limit);
                }
                for (int value : OUTSIDE) {
                    tryOperand(level, kind, place, value, form.charAt(place) == '-');
                }
            }
        }
        for (int kind : new int[] {-1, 14, 15, Integer.MIN_VALUE, Integer.MAX_VALUE}) {
            due("2: kind " + kind, withTwo(level).state(kind, 0, 0, 0), BAD);
        }
    }

    private static void tryOperand(int level, int kind, int place, int value, boolean good) {
        TapeCompiler t = withTwo(level);
        int[] o = {0, 1, 1};
        o[place] = value;
        String call = "2: state(" + kind + ", " + o[0] + ", " + o[1] + ", " + o[2] + ")";
        due(call, t.state(kind, o[0], o[1], o[2]), good ? 2 : BAD);
        due(call + " then drop", t.drop(), good ? 3 : 2);
    }

    private static void promise2Order(int level) {
        TapeCompiler t = fresh(level);
        due("2: a statement can't name itself", t.state(12, 0, 0, 0), BAD);
        for (int s = 0; s < 40; s++) {
            due("2: number", t.state(9, s % 6, 0, 0), s);
        }
        due("2: the 41st", t.state(9, 0, 0, 0), FULL);
        due("2: the 41st of a wrong kind", t.state(14, 0, 0, 0), FULL);
        due("2: the 41st with a wrong operand", t.state(9, 6, 0, 0), FULL);
        due("2: 40 stay", t.drop(), 40);
        due("2: room again", t.state(9, 0, 0, 0), 0);

        TapeCompiler u = fresh(level);
        u.state(9, 0, 0, 0);
        u.state(11, 0, 0, 0);
        u.state(11, 0, 1, 1);
        due("2: a wrong operand before too great a nesting", u.state(12, 6, 2, 0), BAD);
        due("2: a wrong statement before too great a nesting", u.state(11, 0, 2, 3), BAD);
        due("2: too great a nesting", u.state(12, 5, 2, 0), FULL);
        due("2: a refused one takes no number", u.state(9, 0, 0, 0), 3);
    }

    private static void promise2WeightAndNesting(int level) {
        TapeCompiler t = fresh(level);
        t.state(9, 0, 0, 0);
        t.state(10, 0, 0, 0);
        t.state(10, 1, 1, 0);
        t.state(10, 2, 1, 0);
        due("2: weight 11", t.weight(3), 11);
        due("2: weight 12 by kind 12", t.state(12, 0, 3, 0), 4);
        due("2: weight 13 by kind 12", t.state(12, 0, 4, 0), FULL);
        due("2: weight 13 by kind 10", t.state(10, 3, 0, 0), FULL);
        due("2: weight 13 by kind 11", t.state(11, 0, 0, 3), FULL);
        due("2: weight 12 is one too many inside kind 10", t.state(10, 4, 0, 0), FULL);

        TapeCompiler u = fresh(level);
        u.state(9, 0, 0, 0);
        due("2: nesting 1", u.state(11, 0, 0, 0), 1);
        due("2: nesting 1 by kind 12", u.state(12, 0, 0, 0), 2);
        due("2: kind 10 adds no nesting", u.state(10, 1, 2, 0), 3);
        due("2: nesting 2 around kind 10", u.state(12, 0, 3, 0), 4);
        due("2: kind 10 takes the greater nesting, first", u.state(10, 4, 0, 0), 5);
        due("2: nesting 3 around it", u.state(12, 0, 5, 0), FULL);
        due("2: kind 10 takes the greater nesting, second", u.state(10, 0, 4, 0), 6);
        due("2: nesting 3 around that", u.state(12, 0, 6, 0), FULL);
        due("2: nesting 2 in y", u.state(11, 0, 1, 0), 7);
        due("2: nesting 2 in z", u.state(11, 0, 0, 1), 8);
        due("2: nesting 3 in y", u.state(11, 0, 7, 0), FULL);
        due("2: nesting 3 in z", u.state(11, 0, 0, 7), FULL);
        due("2: nesting 3 by kind 12", u.state(12, 0, 8, 0), FULL);
    }

    private static void promise3Drop(int level) {
        TapeCompiler t = fresh(level);
        t.state(0, 2, 9, 0);
        t.state(9, 2, 0, 0);
        t.state(10, 0, 1, 0);
        due("3: drop", t.drop(), 3);
        due("3: drop again", t.drop(), 0);
        due("3: weight", t.weight(0), BAD);
        due("3: run", t.run(0), BAD);
        due("3: no statement to name", t.state(10, 0, 1, 0), BAD);
        due("3: numbers begin again", t.state(0, 1, 4, 0), 0);
        due("3: the new one runs", t.run(0), 0);
        due("3: the new one ran", t.variable(1), 4);
        due("3: the old one did not", t.variable(2), 0);
    }

    private static void promise4Weight(int level) {
        TapeCompiler t = fresh(level);
        for (int kind = 0; kind < 10; kind++) {
            t.state(kind, 0, 0, 0);
            due("4: kind " + kind, t.weight(kind), 1);
        }
        due("4: kind 13", t.weight(t.state(13, 0, 0, 0)), 1);
        due("4: kind 10", t.weight(t.state(10, 0, 1, 0)), 3);
        due("4: kind 10, the same one", t.weight(t.state(10, 11, 11, 0)), 7);
        due("4: kind 11", t.weight(t.state(11, 0, 11, 1)), 5);
        due("4: kind 11, the same one", t.weight(t.state(11, 0, 11, 11)), 7);
        due("4: kind 12", t.weight(t.state(12, 0, 12, 0)), 8);
        due("4: none", t.weight(16), BAD);
        for (int s : OUTSIDE) {
            due("4: none", t.weight(s), BAD);
        }
    }

    /** All kinds run in turn on one object, twice, because what one leaves behind could spoil another. */
    private static void promise5Arithmetic(int level) {
        for (int y = 0; y < 16; y++) {
            for (int z = 0; z < 16; z++) {
                TapeCompiler t = fresh(level);
                for (int round = 0; round < 2; round++) {
                    dueOf(t, 0, y, z, z);
                    dueOf(t, 1, y, z, z);
                    dueOf(t, 2, y, z, (y + z) % 16);
                    dueOf(t, 3, y, z, (y - z + 16) % 16);
                    dueOf(t, 4, y, z, y * z % 16);
                    dueOf(t, 5, y, z, y < z ? 1 : 0);
                    dueOf(t, 6, y, z, y == z ? 1 : 0);
                    dueOf(t, 13, y, z, z == 0 ? 0 : y / z);
                }
                for (int i = 0; i < 16; i++) {
                    due("5: element " + i + " stays", t.element(i), 0);
                }
            }
        }
    }

    /** Kinds 1 to 3 work on x itself, which holds y then; the others get y and z from variables 3 and 5. */
    private static void dueOf(TapeCompiler t, int kind, int y, int z, int want) {
        t.setVariable(1, y);
        t.setVariable(3, y);
        t.setVariable(5, z);
        int s = kind == 0 ? t.state(0, 1, z, -7) : kind < 4 ? t.state(kind, 1, 5, -7) : t.state(kind, 1, 3, 5);
        String what = "5: kind " + kind + " of " + y + " and " + z;
        due(what + ", run", t.run(s), 0);
        due(what, t.variable(1), want);
        due(what + ", variable 3", t.variable(3), y);
        due(what + ", variable 5", t.variable(5), z);
        due(what + ", others", t.variable(0) + t.variable(2) + t.variable(4), 0);
    }

    private static void promise5Array(int level) {
        for (int i = 0; i < 16; i++) {
            TapeCompiler t = fresh(level);
            int[] array = new int[16];
            for (int j = 0; j < 16; j++) {
                array[j] = (j * 7 + 3) % 16;
                t.setElement(j, array[j]);
            }
            for (int round = 0; round < 2; round++) {
                fetchAndStore(t, (i + round * 5) % 16, array);
            }
            arrayInOneRun(level, i);
        }
    }

    /** The array is used again and again within one run: 225 times element i becomes itself + 1, then is printed. */
    private static void arrayInOneRun(int level, int i) {
        TapeCompiler t = fresh(level);
        t.setVariable(0, i);
        t.setVariable(2, 1);
        t.setVariable(3, 15);
        t.state(7, 1, 0, 0);
        t.state(2, 1, 2, 0);
        t.state(8, 0, 1, 0);
        t.state(9, 1, 0, 0);
        t.state(10, 0, 1, 0);
        t.state(10, 2, 3, 0);
        t.state(10, 4, 5, 0);
        t.state(12, 3, 6, 0);
        t.state(12, 3, 7, 0);
        due("5: the array in one run", t.run(8), 225);
        due("5: the array in one run, index " + i, t.element(i), 225 % 16);
        for (int k = 0; k < 40; k++) {
            due("5: the array in one run, number " + k, t.output(k), (k + 1) % 16);
        }
        due("5: the array in one run, index stays", t.variable(0), i);
    }

    private static void fetchAndStore(TapeCompiler t, int i, int[] array) {
        t.setVariable(4, i);
        t.setVariable(2, 15);
        due("5: kind 7, run", t.run(t.state(7, 2, 4, 0)), 0);
        due("5: kind 7, element " + i, t.variable(2), array[i]);
        due("5: kind 7, index stays", t.variable(4), i);
        dueArray("5: kind 7", t, array);
        t.setVariable(0, 15 - i);
        due("5: kind 8, run", t.run(t.state(8, 4, 0, 0)), 0);
        array[i] = 15 - i;
        dueArray("5: kind 8", t, array);
        due("5: kind 8, index stays", t.variable(4), i);
        due("5: kind 8, value stays", t.variable(0), 15 - i);
    }

    private static void dueArray(String what, TapeCompiler t, int[] array) {
        for (int j = 0; j < 16; j++) {
            due(what + ", element " + j, t.element(j), array[j]);
        }
    }

    private static void promise5Control(int level) {
        for (int n = 0; n < 16; n++) {
            TapeCompiler t = fresh(level);
            t.setVariable(1, 1);
            t.setVariable(2, 2);
            t.state(9, 1, 0, 0);
            t.state(9, 2, 0, 0);
            due("5: kind 10", t.run(t.state(10, 1, 0, 0)), 2);
            due("5: kind 10, first x", t.output(0), 2);
            due("5: kind 10, then y", t.output(1), 1);
            t.setVariable(0, n);
            due("5: kind 11", t.run(t.state(11, 0, 0, 1)), 1);
            due("5: kind 11 for " + n, t.output(0), n != 0 ? 1 : 2);
            due("5: kind 12 for " + n, t.run(t.state(12, 0, 0, 0)), n);
            t.state(2, 0, 1, 0);
            due("5: kind 12 changes its own x", t.run(t.state(12, 0, 5, 0)), 0);
            due("5: kind 12 goes by the first x", t.variable(0), 2 * n % 16);
            t.setVariable(0, n);
            t.state(0, 0, 0, 0);
            t.state(10, 7, 0, 0);
            due("5: kind 12 clears its own x", t.run(t.state(12, 0, 8, 0)), n);
            due("5: kind 12 has cleared it", t.variable(0), 0);
        }
        chooseLooksOnce(level);
        nested(level);
    }

    private static void chooseLooksOnce(int level) {
        TapeCompiler t = fresh(level);
        t.state(0, 0, 0, 0);
        t.state(0, 0, 5, 0);
        t.state(11, 0, 0, 1);
        t.run(2);
        due("5: kind 11, else", t.variable(0), 5);
        t.run(2);
        due("5: kind 11, then and no else after it", t.variable(0), 0);
    }

    private static void nested(int level) {
        TapeCompiler t = fresh(level);
        t.state(2, 0, 2, 0);
        t.state(2, 1, 2, 0);
        t.state(11, 3, 0, 1);
        t.state(12, 4, 2, 0);
        t.setVariable(2, 1);
        t.setVariable(4, 7);
        t.run(3);
        due("5: a choice in a repeat, else", t.variable(1), 7);
        t.setVariable(3, 9);
        t.run(3);
        due("5: a choice in a repeat, then", t.variable(0), 7);
        t.state(12, 4, 0, 0);
        t.state(12, 4, 1, 0);
        t.state(11, 3, 4, 5);
        t.setVariable(0, 0);
        t.setVariable(1, 0);
        t.run(6);
        due("5: a repeat in a choice, then", t.variable(0), 7);
        due("5: a repeat in a choice, not else", t.variable(1), 0);
        t.setVariable(3, 0);
        t.run(6);
        due("5: a repeat in a choice, else", t.variable(1), 7);
        t.state(12, 4, 4, 0);
        t.setVariable(0, 0);
        t.run(7);
        due("5: a repeat in a repeat", t.variable(0), 49 % 16);
        nestedChoices(level);
    }

    /** The array is full here, so that it shows if a choice and the array get in each other's way. */
    private static void nestedChoices(int level) {
        for (int way = 0; way < 4; way++) {
            TapeCompiler t = fresh(level);
            int[] array = new int[16];
            for (int i = 0; i < 16; i++) {
                array[i] = 15 - i;
                t.setElement(i, array[i]);
            }
            for (int n = 0; n < 4; n++) {
                t.setVariable(2 + n, 10 + n);
                t.state(9, 2 + n, 0, 0);
            }
            t.state(11, 1, 0, 1);
            t.state(11, 1, 2, 3);
            t.state(11, 0, 4, 5);
            t.setVariable(0, way < 2 ? 15 : 0);
            t.setVariable(1, way % 2 == 0 ? 1 : 0);
            due("5: a choice in a choice", t.run(6), 1);
            due("5: a choice in a choice, way " + way, t.output(0), 10 + way);
            dueArray("5: a choice in a choice", t, array);
        }
    }

    private static void promise5SharedOperands(int level) {
        for (int a = 0; a < 16; a++) {
            shared(level, "x - x", 3, 0, 0, 0, a, 0);
            shared(level, "x + x", 2, 0, 0, 0, a, 2 * a % 16);
            shared(level, "x = x", 1, 0, 0, 0, a, a);
            shared(level, "x * x", 4, 0, 0, 0, a, a * a % 16);
            shared(level, "x < x", 5, 0, 0, 0, a, 0);
            shared(level, "x = x ?", 6, 0, 0, 0, a, 1);
            shared(level, "x / x", 13, 0, 0, 0, a, a == 0 ? 0 : 1);
            shared(level, "x * 3", 4, 0, 0, 1, a, a * 3 % 16);
            shared(level, "3 * x", 4, 0, 1, 0, a, a * 3 % 16);
            shared(level, "x < 3", 5, 0, 0, 1, a, a < 3 ? 1 : 0);
            shared(level, "3 < x", 5, 0, 1, 0, a, 3 < a ? 1 : 0);
            shared(level, "x / 3", 13, 0, 0, 1, a, a / 3);
            shared(level, "3 / x", 13, 0, 1, 0, a, a == 0 ? 0 : 3 / a);
            shared(level, "element x", 7, 0, 0, 0, a, 15 - a);
            TapeCompiler t = fresh(level);
            t.setVariable(0, a);
            t.run(t.state(8, 0, 0, 0));
            due("5: element x becomes x", t.element(a), a);
        }
    }

    private static void shared(int level, String what, int kind, int x, int y, int z, int a, int want) {
        TapeCompiler t = fresh(level);
        t.setVariable(0, a);
        t.setVariable(1, 3);
        for (int i = 0; i < 16; i++) {
            t.setElement(i, 15 - i);
        }
        t.run(t.state(kind, x, y, z));
        due("5: " + what + " for " + a, t.variable(0), want);
    }

    private static void promise5Output(int level) {
        TapeCompiler t = fresh(level);
        t.state(9, 3, 0, 0);
        t.setVariable(3, 11);
        due("5: run", t.run(0), 1);
        t.setVariable(3, 12);
        due("5: run again, the output was made empty", t.run(0), 1);
        due("5: the newer number", t.output(0), 12);
        t.state(0, 3, 1, 0);
        due("5: a run that prints nothing", t.run(1), 0);
        due("5: leaves an empty output", t.output(0), BAD);
        due("5: none", t.run(2), BAD);
        for (int s : OUTSIDE) {
            due("5: none", t.run(s), BAD);
        }
    }

    private static void promise6And7Variables(int level) {
        TapeCompiler t = fresh(level);
        for (int v = 0; v < 6; v++) {
            due("7: set", t.setVariable(v, 15 - v), true);
        }
        for (int v = 0; v < 6; v++) {
            due("6: variable " + v, t.variable(v), 15 - v);
            due("7: too great", t.setVariable(v, 16), false);
            due("7: too small", t.setVariable(v, -1), false);
            for (int x : OUTSIDE) {
                due("7: outside", t.setVariable(v, x), false);
                due("7: outside", t.setVariable(x, v), false);
                due("6: outside", t.variable(x), BAD);
            }
            due("7: refused changes nothing", t.variable(v), 15 - v);
        }
        due("7: variable 6", t.setVariable(6, 0), false);
        due("6: variable 6", t.variable(6), BAD);
        due("7: lowest", t.setVariable(5, 0), true);
        due("6: lowest", t.variable(5), 0);
        due("7: the array is not touched", t.element(5), 0);
    }

    private static void promise8And9Elements(int level) {
        TapeCompiler t = fresh(level);
        for (int i = 0; i < 16; i++) {
            due("9: set", t.setElement(i, 15 - i), true);
        }
        for (int i = 0; i < 16; i++) {
            due("8: element " + i, t.element(i), 15 - i);
            due("9: too great", t.setElement(i, 16), false);
            due("9: too small", t.setElement(i, -1), false);
            for (int x : OUTSIDE) {
                due("9: outside", t.setElement(i, x), false);
                due("9: outside", t.setElement(x, i), false);
                due("8: outside", t.element(x), BAD);
            }
            due("9: refused changes nothing", t.element(i), 15 - i);
        }
        due("9: element 16", t.setElement(16, 0), false);
        due("8: element 16", t.element(16), BAD);
        due("9: no variable is touched", t.variable(5), 0);
    }

    private static void promise10And11Output(int level) {
        TapeCompiler t = fresh(level);
        t.state(2, 0, 1, 0);
        t.state(9, 0, 0, 0);
        t.state(10, 0, 1, 0);
        t.state(12, 2, 2, 0);
        t.state(12, 3, 3, 0);
        t.setVariable(1, 1);
        t.setVariable(2, 13);
        t.setVariable(3, 3);
        due("10: 39 numbers, run", t.run(4), 39);
        due("11: number 38", t.output(38), 39 % 16);
        due("11: number 39 is not there", t.output(39), BAD);
        t.setVariable(0, 0);
        t.setVariable(2, 8);
        t.setVariable(3, 5);
        due("10: 40 numbers, run", t.run(4), 40);
        due("11: number 39", t.output(39), 40 % 16);
        t.setVariable(0, 0);
        t.setVariable(2, 15);
        t.setVariable(3, 15);
        due("10: 225 numbers, run", t.run(4), 225);
        due("10: 225 numbers", t.printed(), 225);
        for (int k = 0; k < 40; k++) {
            due("11: number " + k, t.output(k), (k + 1) % 16);
        }
        due("11: number 40 is there but above 39", t.output(40), BAD);
        due("11: number 224", t.output(224), BAD);
        for (int k : OUTSIDE) {
            due("11: outside", t.output(k), BAD);
        }
        mostOutput(level);
    }

    /** The greatest output that the weight allows: five numbers in two repeats of 15. */
    private static void mostOutput(int level) {
        TapeCompiler t = fresh(level);
        t.state(9, 0, 0, 0);
        t.state(10, 0, 0, 0);
        t.state(10, 1, 1, 0);
        t.state(10, 2, 0, 0);
        t.state(12, 1, 3, 0);
        t.state(12, 1, 4, 0);
        t.setVariable(1, 15);
        due("10: the most, weight", t.weight(5), 11);
        due("10: the most, run", t.run(5), 1125);
        due("10: the most", t.printed(), 1125);
    }

    private static void promise12Level() {
        TapeCompiler t = new TapeCompiler();
        for (int k : OUTSIDE) {
            due("12: outside", t.level(k), false);
        }
        due("12: 2", t.level(2), false);
        t.state(9, 0, 0, 0);
        t.setVariable(0, 6);
        t.setElement(3, 4);
        t.run(0);
        for (int k : new int[] {1, 0, 0, 2, 1, -1, 0}) {
            due("12: level " + k, t.level(k), k == 0 || k == 1);
            due("12: the output stays", t.output(0), 6);
            due("12: the variables stay", t.variable(0), 6);
            due("12: the array stays", t.element(3), 4);
            due("12: the statements stay", t.weight(0), 1);
            due("12: and run", t.run(0), 1);
        }
    }

    private static void promise13Order(int level) {
        TapeCompiler t = fresh(level);
        t.setVariable(0, 7);
        t.setElement(7, 2);
        t.state(9, 0, 0, 0);
        t.run(0);
        due("13: a wrong run", t.run(1), BAD);
        due("13: leaves the output", t.output(0), 7);
        due("13: leaves its number", t.printed(), 1);
        due("13: drop", t.drop(), 1);
        due("13: drop leaves the output", t.output(0), 7);
        due("13: drop leaves its number", t.printed(), 1);
        due("13: drop leaves the variables", t.variable(0), 7);
        due("13: drop leaves the array", t.element(7), 2);
        due("13: a wrong run after drop", t.run(0), BAD);
        due("13: leaves the output too", t.output(0), 7);
        t.setVariable(1, 3);
        t.run(t.state(7, 2, 0, 0));
        due("13: kind 7 goes by the value of y", t.variable(2), 2);
        t.run(t.state(8, 1, 0, 0));
        due("13: kind 8 goes by the value of x", t.element(3), 7);
        due("13: kind 10 counts the same one twice", t.weight(t.state(10, 0, 0, 0)), 3);
    }
}
