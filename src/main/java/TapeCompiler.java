/**
 * A small language compiled for a machine that only moves over a tape, adds, and loops.
 *
 * The variables and the array lie on the tape itself, among cells for passing use that are 0
 * whenever no statement is under way. A run writes tape code for the statement and carries it out.
 */
public final class TapeCompiler {
    public static final int BAD = -1;
    public static final int FULL = -2;

    private static final int VARIABLES = 6;
    private static final int ELEMENTS = 16;
    private static final int NUMBERS = 16;
    private static final int STATEMENTS = 40;
    private static final int MOST_WEIGHT = 12;
    private static final int MOST_NESTING = 2;
    private static final int KEPT = 40;

    private static final int SET = 0;
    private static final int COPY = 1;
    private static final int PLUS = 2;
    private static final int MINUS = 3;
    private static final int PRODUCT = 4;
    private static final int LESS = 5;
    private static final int EQUAL = 6;
    private static final int FETCH = 7;
    private static final int STORE = 8;
    private static final int SAY = 9;
    private static final int BOTH = 10;
    private static final int CHOOSE = 11;
    private static final int REPEAT = 12;
    private static final int QUOTIENT = 13;

    // What the machine can do. TIMES and ONCE stand only at level 1, around the body of a folded loop.
    private static final int MOVE = 0;
    private static final int ADD = 1;
    private static final int OPEN = 2;
    private static final int CLOSE = 3;
    private static final int PRINT = 4;
    private static final int TIMES = 5;
    private static final int ONCE = 6;

    // The tape: the variables from cell 0, then cells for passing use, two cells for each nesting,
    // then the blocks of the array. It is a ring of a power of two, so that a mask keeps the head on it.
    private static final int TAPE = 128;
    private static final int SPARE = 6;
    private static final int LEFT = 7;
    private static final int RIGHT = 8;
    private static final int COUNT = 9;
    private static final int FLAG = 10;
    private static final int LOOK = 11;
    private static final int RESULT = 12;
    private static final int BRANCH = 13;

    // Each element has a block of four cells, because the head can find an element only by walking:
    // it takes the index and a value along from block to block and leaves a trail to come back by.
    private static final int BLOCK = 4;
    private static final int ELEMENT = 17;
    private static final int INDEX = 18;
    private static final int CARRY = 19;
    private static final int TRAIL = 20;

    // At most 12 statements go into one code; the longest of them, a division, takes fewer than 150 places.
    private static final int CODE = 2048;
    private static final int LOOPS = 16;

    // What is still to be written: numbers of statements, and these marks for what stands between them.
    private static final int OTHERWISE = 40;
    private static final int END_CHOOSE = 41;
    private static final int END_REPEAT = 42;
    private static final int TASKS = 64;

    // A run needs some millions of steps at the very most.
    private static final int MOST_STEPS = 1_000_000_000;

    private final int[] kinds = new int[STATEMENTS];
    private final int[] firsts = new int[STATEMENTS];
    private final int[] seconds = new int[STATEMENTS];
    private final int[] thirds = new int[STATEMENTS];
    private final int[] weights = new int[STATEMENTS];
    private final int[] nestings = new int[STATEMENTS];
    private int statements;

    private final int[] tape = new int[TAPE];
    private final int[] kept = new int[KEPT];
    private int said;
    private int chosenLevel;

    private final int[] ops = new int[CODE];
    private final int[] args = new int[CODE];
    private int length;
    private int place;

    private final int[] tasks = new int[TASKS];
    private int waiting;
    private int nest;
    private final int[] starts = new int[LOOPS];

    public TapeCompiler() {
        chosenLevel = 1;
    }

    public int state(int kind, int x, int y, int z) {
        if (statements >= STATEMENTS) {
            return FULL;
        }
        if (!operandsFit(kind, x, y, z)) {
            return BAD;
        }
        int weight = weightOf(kind, x, y, z);
        int nesting = nestingOf(kind, x, y, z);
        if (weight > MOST_WEIGHT || nesting > MOST_NESTING) {
            return FULL;
        }
        int s = statements;
        kinds[s] = kind;
        firsts[s] = x;
        seconds[s] = y;
        thirds[s] = z;
        weights[s] = weight;
        nestings[s] = nesting;
        statements = s + 1;
        return s;
    }

    public int drop() {
        int dropped = statements;
        statements = 0;
        return dropped;
    }

    public int weight(int s) {
        return isStatement(s) ? weights[s] : BAD;
    }

    public int run(int s) {
        if (!isStatement(s)) {
            return BAD;
        }
        said = 0;
        writeCode(s);
        matchLoops();
        carryOut();
        return said;
    }

    public int variable(int v) {
        return isVariable(v) ? tape[v] : BAD;
    }

    public boolean setVariable(int v, int x) {
        if (!isVariable(v) || !isNumber(x)) {
            return false;
        }
        tape[v] = x;
        return true;
    }

    public int element(int i) {
        return isElement(i) ? tape[ELEMENT + BLOCK * i] : BAD;
    }

    public boolean setElement(int i, int x) {
        if (!isElement(i) || !isNumber(x)) {
            return false;
        }
        tape[ELEMENT + BLOCK * i] = x;
        return true;
    }

    public int printed() {
        return said;
    }

    public int output(int k) {
        if (k < 0 || k >= KEPT || k >= said) {
            return BAD;
        }
        return kept[k];
    }

    public boolean level(int k) {
        if (k < 0 || k > 1) {
            return false;
        }
        chosenLevel = k;
        return true;
    }

    private boolean isNumber(int n) {
        return n >= 0 && n < NUMBERS;
    }

    private boolean isVariable(int v) {
        return v >= 0 && v < VARIABLES;
    }

    private boolean isElement(int i) {
        return i >= 0 && i < ELEMENTS;
    }

    private boolean isStatement(int s) {
        return s >= 0 && s < statements;
    }

    private boolean operandsFit(int kind, int x, int y, int z) {
        switch (kind) {
            case SET:
                return isVariable(x) && isNumber(y);
            case COPY:
            case PLUS:
            case MINUS:
            case FETCH:
            case STORE:
                return isVariable(x) && isVariable(y);
            case PRODUCT:
            case LESS:
            case EQUAL:
            case QUOTIENT:
                return isVariable(x) && isVariable(y) && isVariable(z);
            case SAY:
                return isVariable(x);
            case BOTH:
                return isStatement(x) && isStatement(y);
            case CHOOSE:
                return isVariable(x) && isStatement(y) && isStatement(z);
            case REPEAT:
                return isVariable(x) && isStatement(y);
            default:
                return false;
        }
    }

    private int weightOf(int kind, int x, int y, int z) {
        switch (kind) {
            case BOTH:
                return 1 + weights[x] + weights[y];
            case CHOOSE:
                return 1 + weights[y] + weights[z];
            case REPEAT:
                return 1 + weights[y];
            default:
                return 1;
        }
    }

    private int nestingOf(int kind, int x, int y, int z) {
        switch (kind) {
            case BOTH:
                return greater(nestings[x], nestings[y]);
            case CHOOSE:
                return 1 + greater(nestings[y], nestings[z]);
            case REPEAT:
                return 1 + nestings[y];
            default:
                return 0;
        }
    }

    private int greater(int a, int b) {
        return a > b ? a : b;
    }

    /** Statements lie in one another, so what is still to be written waits on a stack. */
    private void writeCode(int s) {
        length = 0;
        place = 0;
        nest = 0;
        waiting = 0;
        writeLater(s);
        for (int turn = 0; turn < TASKS && waiting > 0; turn++) {
            waiting--;
            int task = tasks[waiting];
            if (task == OTHERWISE) {
                writeOtherwise();
            } else if (task == END_CHOOSE) {
                nest--;
                int otherwise = otherwiseCell();
                put(CLOSE, otherwise, 0);
            } else if (task == END_REPEAT) {
                nest--;
                int turns = turnsCell();
                put(CLOSE, turns, 0);
            } else if (kinds[task] == BOTH) {
                writeLater(seconds[task]);
                writeLater(firsts[task]);
            } else if (kinds[task] == CHOOSE) {
                writeChoose(firsts[task], seconds[task], thirds[task]);
            } else if (kinds[task] == REPEAT) {
                writeRepeat(firsts[task], seconds[task]);
            } else {
                writeSimple(kinds[task], firsts[task], seconds[task], thirds[task]);
            }
        }
    }

    private void writeLater(int task) {
        if (waiting < TASKS) {
            tasks[waiting] = task;
            waiting++;
        }
    }

    private int turnsCell() {
        return BRANCH + 2 * nest;
    }

    private int otherwiseCell() {
        return BRANCH + 2 * nest + 1;
    }

    /** Both cells are 0 again before either statement begins, so neither loop goes round twice. */
    private void writeChoose(int x, int y, int z) {
        int chosen = turnsCell();
        int otherwise = otherwiseCell();
        addTo(x, chosen);
        put(ADD, otherwise, 1);
        put(OPEN, chosen, 0);
        put(ADD, otherwise, -1);
        clear(chosen);
        nest++;
        writeLater(END_CHOOSE);
        writeLater(z);
        writeLater(OTHERWISE);
        writeLater(y);
    }

    private void writeOtherwise() {
        nest--;
        int chosen = turnsCell();
        int otherwise = otherwiseCell();
        put(CLOSE, chosen, 0);
        put(OPEN, otherwise, 0);
        put(ADD, otherwise, -1);
        nest++;
    }

    /** The turns are counted in a cell of their own: the statement may change x. */
    private void writeRepeat(int x, int y) {
        int turns = turnsCell();
        addTo(x, turns);
        put(OPEN, turns, 0);
        put(ADD, turns, -1);
        nest++;
        writeLater(END_REPEAT);
        writeLater(y);
    }

    /** Operands are copied before x is touched, because x may be one of them. */
    private void writeSimple(int kind, int x, int y, int z) {
        switch (kind) {
            case SET:
                clear(x);
                put(ADD, x, y);
                break;
            case COPY:
                addTo(y, LEFT);
                clear(x);
                pour(LEFT, x, 1);
                break;
            case PLUS:
                addTo(y, LEFT);
                pour(LEFT, x, 1);
                break;
            case MINUS:
                addTo(y, LEFT);
                pour(LEFT, x, -1);
                break;
            case PRODUCT:
                writeProduct(x, y, z);
                break;
            case LESS:
                writeLess(x, y, z);
                break;
            case EQUAL:
                writeEqual(x, y, z);
                break;
            case FETCH:
                addTo(y, INDEX);
                walkOut();
                liftElement();
                walkBack();
                clear(x);
                pour(CARRY, x, 1);
                break;
            case STORE:
                addTo(x, INDEX);
                addTo(y, CARRY);
                walkOut();
                clear(ELEMENT);
                pour(CARRY, ELEMENT, 1);
                walkBack();
                break;
            case SAY:
                put(PRINT, x, 0);
                break;
            default:
                writeQuotient(x, y, z);
        }
    }

    private void writeProduct(int x, int y, int z) {
        addTo(y, LEFT);
        addTo(z, RIGHT);
        clear(x);
        put(OPEN, LEFT, 0);
        put(ADD, LEFT, -1);
        addTo(RIGHT, x);
        put(CLOSE, LEFT, 0);
        clear(RIGHT);
    }

    /** RIGHT goes down with LEFT but not below 0, so something is left of it only if it was greater. */
    private void writeLess(int x, int y, int z) {
        addTo(y, LEFT);
        addTo(z, RIGHT);
        put(OPEN, LEFT, 0);
        put(ADD, LEFT, -1);
        addTo(RIGHT, FLAG);
        put(OPEN, FLAG, 0);
        put(ADD, RIGHT, -1);
        clear(FLAG);
        put(CLOSE, FLAG, 0);
        put(CLOSE, LEFT, 0);
        clear(x);
        put(OPEN, RIGHT, 0);
        put(ADD, x, 1);
        clear(RIGHT);
        put(CLOSE, RIGHT, 0);
    }

    private void writeEqual(int x, int y, int z) {
        addTo(y, LEFT);
        addTo(z, RIGHT);
        pour(RIGHT, LEFT, -1);
        clear(x);
        put(ADD, x, 1);
        put(OPEN, LEFT, 0);
        put(ADD, x, -1);
        clear(LEFT);
        put(CLOSE, LEFT, 0);
    }

    /**
     * COUNT goes down with LEFT and starts again from the divisor each time it reaches 0. From a
     * divisor of 0 it would take 16 steps to reach 0 again, and LEFT has 15 at most: the answer is 0.
     */
    private void writeQuotient(int x, int y, int z) {
        addTo(y, LEFT);
        addTo(z, RIGHT);
        addTo(RIGHT, COUNT);
        put(OPEN, LEFT, 0);
        put(ADD, LEFT, -1);
        put(ADD, COUNT, -1);
        put(ADD, FLAG, 1);
        addTo(COUNT, LOOK);
        put(OPEN, LOOK, 0);
        put(ADD, FLAG, -1);
        clear(LOOK);
        put(CLOSE, LOOK, 0);
        put(OPEN, FLAG, 0);
        put(ADD, FLAG, -1);
        put(ADD, RESULT, 1);
        addTo(RIGHT, COUNT);
        put(CLOSE, FLAG, 0);
        put(CLOSE, LEFT, 0);
        clear(RIGHT);
        clear(COUNT);
        clear(x);
        pour(RESULT, x, 1);
    }

    /** From here to the end of walkBack the cells of block 0 stand for those of the block walked to. */
    private void walkOut() {
        put(OPEN, INDEX, 0);
        put(ADD, INDEX, -1);
        pour(INDEX, INDEX + BLOCK, 1);
        pour(CARRY, CARRY + BLOCK, 1);
        put(ADD, TRAIL + BLOCK, 1);
        put(MOVE, INDEX, BLOCK);
        put(CLOSE, INDEX, 0);
    }

    private void walkBack() {
        put(OPEN, TRAIL, 0);
        put(ADD, TRAIL, -1);
        pour(CARRY, CARRY - BLOCK, 1);
        put(MOVE, TRAIL, -BLOCK);
        put(CLOSE, TRAIL, 0);
    }

    /** INDEX serves as the spare cell: the one that addTo uses is not in the block. */
    private void liftElement() {
        put(OPEN, ELEMENT, 0);
        put(ADD, ELEMENT, -1);
        put(ADD, INDEX, 1);
        put(ADD, CARRY, 1);
        put(CLOSE, ELEMENT, 0);
        pour(INDEX, ELEMENT, 1);
    }

    private void clear(int cell) {
        put(OPEN, cell, 0);
        put(ADD, cell, -1);
        put(CLOSE, cell, 0);
    }

    /** The loop ends only if the two cells differ. */
    private void pour(int from, int to, int n) {
        put(OPEN, from, 0);
        put(ADD, from, -1);
        put(ADD, to, n);
        put(CLOSE, from, 0);
    }

    /** The machine can read a cell only by counting it down, so SPARE keeps the count to restore it. */
    private void addTo(int from, int to) {
        put(OPEN, from, 0);
        put(ADD, from, -1);
        put(ADD, to, 1);
        put(ADD, SPARE, 1);
        put(CLOSE, from, 0);
        put(OPEN, SPARE, 0);
        put(ADD, SPARE, -1);
        put(ADD, from, 1);
        put(CLOSE, SPARE, 0);
    }

    /** A MOVE put here leaves place as it is: the code after it counts its cells from the new block. */
    private void put(int op, int cell, int n) {
        if (length + 2 > CODE) {
            return;
        }
        if (cell != place) {
            ops[length] = MOVE;
            args[length] = cell - place;
            length++;
            place = cell;
        }
        ops[length] = op;
        args[length] = n;
        length++;
    }

    private void matchLoops() {
        int open = 0;
        for (int i = 0; i < length; i++) {
            if (ops[i] == OPEN && open < LOOPS) {
                starts[open] = i;
                open++;
            } else if (ops[i] == CLOSE && open > 0) {
                open--;
                int start = starts[open];
                args[start] = i;
                args[i] = start;
                if (chosenLevel == 1 && canFold(start, i)) {
                    ops[start] = TIMES;
                    ops[i] = ONCE;
                }
            }
        }
    }

    /** A loop that only adds and counts its own cell down by 1 can be done in one turn, all its adds multiplied. */
    private boolean canFold(int start, int end) {
        int away = 0;
        int own = 0;
        for (int i = start + 1; i < end; i++) {
            if (ops[i] == MOVE) {
                away += args[i];
            } else if (ops[i] != ADD) {
                return false;
            } else if (away == 0) {
                own += args[i];
            }
        }
        return away == 0 && own == -1;
    }

    private void carryOut() {
        int head = 0;
        int times = 1;
        int at = 0;
        for (int step = 0; step < MOST_STEPS && at >= 0 && at < length; step++) {
            int n = args[at];
            switch (ops[at]) {
                case MOVE:
                    head = (head + n) & (TAPE - 1);
                    break;
                case ADD:
                    tape[head] = (tape[head] + n * times) & (NUMBERS - 1);
                    break;
                case OPEN:
                    at = tape[head] == 0 ? n : at;
                    break;
                case CLOSE:
                    at = tape[head] != 0 ? n : at;
                    break;
                case PRINT:
                    say(tape[head]);
                    break;
                case TIMES:
                    times = tape[head];
                    break;
                default:
                    times = 1;
            }
            at++;
        }
    }

    private void say(int number) {
        if (said < KEPT) {
            kept[said] = number;
        }
        said++;
    }
}
