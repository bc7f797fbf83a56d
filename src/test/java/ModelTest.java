/**
 * Long runs of calls, each answer held against a plain model of the document that knows of no tape.
 * The calls come from a fixed sequence of numbers, so every run of the test is the same.
 */
public final class ModelTest {
    private static final int OBJECTS = 3000;
    private static final int CALLS = 512;
    private static final int BAD = -1;
    private static final int FULL = -2;

    private static long seed;
    private static int wrong = 0;

    private final int[][] statements = new int[40][];
    private final int[] weights = new int[40];
    private final int[] nestings = new int[40];
    private int count = 0;
    private final int[] variables = new int[6];
    private final int[] array = new int[16];
    private final int[] output = new int[5000];
    private int printed = 0;

    public static void main(String[] args) {
        for (int object = 0; object < OBJECTS && wrong < 20; object++) {
            seed = object * 7919L + 17;
            compare(object, object % 3);
        }
        System.out.println(wrong == 0 ? "the program answers as the model does" : wrong + " answers differ");
        if (wrong != 0) {
            System.exit(1);
        }
    }

    private static int next(int bound) {
        seed = seed * 6364136223846793005L + 1442695040888963407L;
        return (int) ((seed >>> 33) % bound);
    }

    /** Mostly inside 0..limit-1, now and then just outside or far away. */
    private static int around(int limit) {
        int choice = next(40);
        if (choice == 0) {
            return -1;
        }
        if (choice == 1) {
            return limit;
        }
        if (choice == 2) {
            return next(2) == 0 ? Integer.MIN_VALUE : Integer.MAX_VALUE;
        }
        return next(limit < 1 ? 1 : limit);
    }

    private static void due(int object, int call, String what, int got, int want) {
        if (got != want) {
            wrong++;
            System.out.println("object " + object + ", call " + call + ": " + what + " answered " + got + ", due is " + want);
        }
    }

    private static void compare(int object, int mode) {
        TapeCompiler t = new TapeCompiler();
        ModelTest m = new ModelTest();
        int call = 0;
        if (mode < 2) {
            due(object, call++, "level(" + mode + ")", t.level(mode) ? 1 : 0, 1);
        }
        while (call < CALLS - 23 && wrong < 20) {
            int a = next(100);
            if (a < 35) {
                makeStatement(object, call, t, m);
            } else if (a < 55) {
                int s = around(m.count);
                due(object, call, "run(" + s + ")", t.run(s), m.run(s));
            } else if (a < 70) {
                set(object, call, t, m);
            } else if (a < 72) {
                due(object, call, "drop()", t.drop(), m.drop());
            } else if (a < 74) {
                int k = mode == 2 ? around(2) : next(2) == 0 ? -1 : 2;
                due(object, call, "level(" + k + ")", t.level(k) ? 1 : 0, k == 0 || k == 1 ? 1 : 0);
            } else {
                ask(object, call, t, m);
            }
            call++;
        }
        for (int v = 0; v < 6; v++) {
            due(object, call++, "variable(" + v + ")", t.variable(v), m.variables[v]);
        }
        for (int i = 0; i < 16; i++) {
            due(object, call++, "element(" + i + ")", t.element(i), m.array[i]);
        }
    }

    private static void makeStatement(int object, int call, TapeCompiler t, ModelTest m) {
        int kind = next(3) == 0 ? 10 + next(3) : around(14);
        boolean statementFirst = kind == 10;
        boolean statementLater = kind >= 10 && kind <= 12;
        int x = statementFirst ? around(m.count) : around(6);
        int y = statementLater ? around(m.count) : kind == 0 ? around(16) : around(6);
        int z = statementLater ? around(m.count) : around(6);
        String what = "state(" + kind + ", " + x + ", " + y + ", " + z + ")";
        due(object, call, what, t.state(kind, x, y, z), m.state(kind, x, y, z));
    }

    private static void set(int object, int call, TapeCompiler t, ModelTest m) {
        int x = around(16);
        if (next(2) == 0) {
            int v = around(6);
            boolean good = v >= 0 && v < 6 && x >= 0 && x < 16;
            due(object, call, "setVariable(" + v + ", " + x + ")", t.setVariable(v, x) ? 1 : 0, good ? 1 : 0);
            if (good) {
                m.variables[v] = x;
            }
        } else {
            int i = around(16);
            boolean good = i >= 0 && i < 16 && x >= 0 && x < 16;
            due(object, call, "setElement(" + i + ", " + x + ")", t.setElement(i, x) ? 1 : 0, good ? 1 : 0);
            if (good) {
                m.array[i] = x;
            }
        }
    }

    private static void ask(int object, int call, TapeCompiler t, ModelTest m) {
        switch (next(5)) {
            case 0:
                int v = around(6);
                due(object, call, "variable(" + v + ")", t.variable(v), v >= 0 && v < 6 ? m.variables[v] : BAD);
                break;
            case 1:
                int i = around(16);
                due(object, call, "element(" + i + ")", t.element(i), i >= 0 && i < 16 ? m.array[i] : BAD);
                break;
            case 2:
                due(object, call, "printed()", t.printed(), m.printed);
                break;
            case 3:
                int k = next(4) == 0 ? around(40) : around(m.printed);
                boolean there = k >= 0 && k < m.printed && k <= 39;
                due(object, call, "output(" + k + ")", t.output(k), there ? m.output[k] : BAD);
                break;
            default:
                int s = around(m.count);
                due(object, call, "weight(" + s + ")", t.weight(s), m.isStatement(s) ? m.weights[s] : BAD);
        }
    }

    private boolean isStatement(int s) {
        return s >= 0 && s < count;
    }

    private static boolean isVariable(int v) {
        return v >= 0 && v < 6;
    }

    private int drop() {
        int dropped = count;
        count = 0;
        return dropped;
    }

    private int state(int kind, int x, int y, int z) {
        if (count == 40) {
            return FULL;
        }
        if (kind < 0 || kind > 13 || !fits(kind, x, y, z)) {
            return BAD;
        }
        int[] inside = kind == 10 ? new int[] {x, y} : kind == 11 ? new int[] {y, z} : kind == 12 ? new int[] {y} : new int[0];
        int weight = 1;
        int nesting = 0;
        for (int s : inside) {
            weight += weights[s];
            nesting = Math.max(nesting, nestings[s]);
        }
        nesting += kind == 11 || kind == 12 ? 1 : 0;
        if (weight > 12 || nesting > 2) {
            return FULL;
        }
        statements[count] = new int[] {kind, x, y, z};
        weights[count] = weight;
        nestings[count] = nesting;
        return count++;
    }

    private boolean fits(int kind, int x, int y, int z) {
        boolean first = kind == 10 ? isStatement(x) : isVariable(x);
        boolean second = kind == 9 || (kind == 0 ? y >= 0 && y < 16 : kind >= 10 && kind <= 12 ? isStatement(y) : isVariable(y));
        boolean hasThird = kind == 4 || kind == 5 || kind == 6 || kind == 11 || kind == 13;
        boolean third = !hasThird || (kind == 11 ? isStatement(z) : isVariable(z));
        return first && second && third;
    }

    private int run(int s) {
        if (!isStatement(s)) {
            return BAD;
        }
        printed = 0;
        perform(s);
        return printed;
    }

    private void perform(int s) {
        int x = statements[s][1];
        int y = statements[s][2];
        int z = statements[s][3];
        int[] v = variables;
        switch (statements[s][0]) {
            case 0: v[x] = y; break;
            case 1: v[x] = v[y]; break;
            case 2: v[x] = (v[x] + v[y]) % 16; break;
            case 3: v[x] = (v[x] - v[y] + 16) % 16; break;
            case 4: v[x] = v[y] * v[z] % 16; break;
            case 5: v[x] = v[y] < v[z] ? 1 : 0; break;
            case 6: v[x] = v[y] == v[z] ? 1 : 0; break;
            case 7: v[x] = array[v[y]]; break;
            case 8: array[v[x]] = v[y]; break;
            case 9: output[printed++] = v[x]; break;
            case 10: perform(x); perform(y); break;
            case 11: perform(v[x] != 0 ? y : z); break;
            case 12:
                int turns = v[x];
                for (int i = 0; i < turns; i++) {
                    perform(y);
                }
                break;
            default: v[x] = v[z] == 0 ? 0 : v[y] / v[z];
        }
    }
}
