/*
 * A small language with tables. An expression is compiled to register code when it is made,
 * the statements are run over that code, and before each statement the tables that can't be
 * come to any more are collected.
 *
 * A value is held in one long, 4 times its number plus its sort: 0 is nothing, an int has its
 * own number, a table has the number of its place in the heap. So two values are the same iff
 * their longs are equal.
 */
public final class TableMachine {
    public static final int BAD = -1;
    public static final int FULL = -2;
    public static final int UNSOUND = -3;
    public static final int NONE = -4;

    private static final int MOST_EXPRESSIONS = 30;
    private static final int MOST_WEIGHT = 7;
    private static final int MOST_STATEMENTS = 14;
    private static final int MOST_NAMED = 6;
    private static final int MOST_TURNS = 5;
    private static final int MOST_LOOPS = 2;
    private static final int MOST_ENTRIES = 6;
    private static final int MOST_TABLES = 8;
    private static final int MOST_OUTPUT = 30;
    private static final int VARIABLES = 6;

    // Each node of an expression is one instruction, so the code is as long as the weight.
    private static final int CODE = MOST_EXPRESSIONS * MOST_WEIGHT;
    // A second part that needs one register more costs a weight of 2, and 7 is 1 + 3 * 2.
    private static final int REGISTERS = 4;
    // A statement starts with at most 8 tables in use and works out at most 3 expressions,
    // each of which has, at a weight of 7, at most 4 parts that make a table.
    private static final int HEAP = MOST_TABLES + 3 * 4;
    private static final int HEAP_ENTRIES = HEAP * MOST_ENTRIES;
    // Two LOOPs of 6 with a LOOP of 5 inside come to 262 statements; no run comes to more.
    private static final int MOST_STEPS = 100000;

    private static final int SORT_INT = 1;
    private static final int SORT_TABLE = 2;

    private static final long NOTHING = 0L;
    // The int 1.
    private static final long TRUE = 5L;
    // No value has the sort 3.
    private static final long FAILED = 3L;

    private static final int KIND_INT = 0;
    private static final int KIND_VARIABLE = 1;
    private static final int KIND_ADD = 2;
    private static final int KIND_SUBTRACT = 3;
    private static final int KIND_MULTIPLY = 4;
    private static final int KIND_LESS = 5;
    private static final int KIND_SAME = 6;
    private static final int KIND_AND = 7;
    private static final int KIND_OR = 8;
    private static final int KIND_NOT = 9;
    private static final int KIND_ENTRY = 10;
    private static final int KIND_NEW = 11;
    private static final int KIND_COUNT = 12;

    private static final int OP_LET = 0;
    private static final int OP_PUT = 1;
    private static final int OP_IF = 2;
    private static final int OP_LOOP = 3;
    private static final int OP_SHOW = 4;

    private static final int NO_ENTRY = -1;
    private static final int STOP = -1;

    private int expressionCount = 0;
    private final int[] weights = new int[MOST_EXPRESSIONS];
    private final int[] codeKinds = new int[CODE];
    private final int[] codeOperands = new int[CODE];
    private final int[] codeRegisters = new int[CODE];
    private final long[] registers = new long[REGISTERS];

    private int statementCount = 0;
    private final int[] ops = new int[MOST_STATEMENTS];
    private final int[] operandsX = new int[MOST_STATEMENTS];
    private final int[] operandsY = new int[MOST_STATEMENTS];
    private final int[] operandsZ = new int[MOST_STATEMENTS];

    private int openLoops = 0;
    private final int[] loopStatements = new int[MOST_LOOPS];
    private final int[] loopTurns = new int[MOST_LOOPS];
    private final int[] loopLimits = new int[MOST_LOOPS];

    private final long[] variables = new long[VARIABLES];

    private final boolean[] inUse = new boolean[HEAP];
    private final int[] sizes = new int[HEAP];
    private final int[] keys = new int[HEAP_ENTRIES];
    private final long[] entries = new long[HEAP_ENTRIES];
    private int foundCount = 0;
    private final int[] found = new int[HEAP];

    private int outputCount = 0;
    private final long[] outputs = new long[MOST_OUTPUT];

    public TableMachine() {
    }

    // ---- expressions ----

    public int express(int kind, int x, int y) {
        if (expressionCount >= MOST_EXPRESSIONS) {
            return FULL;
        }
        if (kind < KIND_INT || kind > KIND_COUNT) {
            return BAD;
        }
        if (kind == KIND_VARIABLE && !isVariable(x)) {
            return BAD;
        }
        int parts = partsOf(kind);
        if (parts >= 1 && !isExpression(x)) {
            return BAD;
        }
        if (parts == 2 && !isExpression(y)) {
            return BAD;
        }
        int weight = 1;
        if (parts >= 1) {
            weight += weights[x];
        }
        if (parts == 2) {
            weight += weights[y];
        }
        if (weight > MOST_WEIGHT) {
            return FULL;
        }
        compile(kind, x, y);
        int made = expressionCount;
        weights[made] = weight;
        expressionCount++;
        return made;
    }

    private static int partsOf(int kind) {
        if (kind == KIND_INT || kind == KIND_VARIABLE || kind == KIND_NEW) {
            return 0;
        }
        return kind == KIND_NOT || kind == KIND_COUNT ? 1 : 2;
    }

    private boolean isExpression(int e) {
        return e >= 0 && e < expressionCount;
    }

    private static boolean isVariable(int v) {
        return v >= 0 && v < VARIABLES;
    }

    // The code of an expression leaves its value in register 0; as the second part of another
    // one it is moved up by a register, since the first part's value waits below.
    private void compile(int kind, int x, int y) {
        int at = expressionCount * MOST_WEIGHT;
        int parts = partsOf(kind);
        if (parts == 0) {
            emit(at, kind, x);
            return;
        }
        copyCode(x, at, 0);
        at += weights[x];
        if (parts == 1) {
            emit(at, kind, 0);
        } else if (kind == KIND_AND || kind == KIND_OR) {
            // One of the two values is kept, so y takes the register of x or is jumped over.
            emit(at, kind, weights[y]);
            copyCode(y, at + 1, 0);
        } else {
            copyCode(y, at, 1);
            emit(at + weights[y], kind, 0);
        }
    }

    private void emit(int at, int kind, int operand) {
        codeKinds[at] = kind;
        codeOperands[at] = operand;
        codeRegisters[at] = 0;
    }

    private void copyCode(int part, int to, int up) {
        int from = part * MOST_WEIGHT;
        for (int i = 0; i < weights[part]; i++) {
            codeKinds[to + i] = codeKinds[from + i];
            codeOperands[to + i] = codeOperands[from + i];
            codeRegisters[to + i] = codeRegisters[from + i] + up;
        }
    }

    private long workOut(int e) {
        int at = e * MOST_WEIGHT;
        int end = at + weights[e];
        for (int step = 0; step < MOST_WEIGHT && at < end; step++) {
            int kind = codeKinds[at];
            int r = codeRegisters[at];
            int parts = partsOf(kind);
            int skip = 0;
            if (kind == KIND_AND || kind == KIND_OR) {
                boolean nothing = registers[r] == NOTHING;
                skip = nothing == (kind == KIND_AND) ? codeOperands[at] : 0;
            } else if (parts == 0) {
                registers[r] = fetch(kind, codeOperands[at]);
            } else if (parts == 1) {
                registers[r] = ofOne(kind, registers[r]);
            } else {
                registers[r] = ofTwo(kind, registers[r], registers[r + 1]);
            }
            if (registers[r] == FAILED) {
                return FAILED;
            }
            at += 1 + skip;
        }
        return registers[0];
    }

    private long fetch(int kind, int operand) {
        if (kind == KIND_INT) {
            return valueOf(SORT_INT, operand);
        }
        return kind == KIND_VARIABLE ? variables[operand] : newTable();
    }

    private long ofOne(int kind, long x) {
        if (kind == KIND_NOT) {
            return x == NOTHING ? TRUE : NOTHING;
        }
        if (!isTable(x)) {
            return FAILED;
        }
        int count = seenNumber(x);
        return valueOf(SORT_INT, count);
    }

    private long ofTwo(int kind, long x, long y) {
        if (kind == KIND_SAME) {
            return x == y ? TRUE : NOTHING;
        }
        if (!isInt(y)) {
            return FAILED;
        }
        int first = numberOf(x);
        int second = numberOf(y);
        if (kind == KIND_ENTRY) {
            return isTable(x) ? entryOf(first, second) : FAILED;
        }
        return isInt(x) ? ofInts(kind, first, second) : FAILED;
    }

    private static long ofInts(int kind, int x, int y) {
        switch (kind) {
            case KIND_ADD:
                return valueOf(SORT_INT, x + y);
            case KIND_SUBTRACT:
                return valueOf(SORT_INT, x - y);
            case KIND_MULTIPLY:
                return valueOf(SORT_INT, x * y);
            default: // KIND_LESS
                return x < y ? TRUE : NOTHING;
        }
    }

    // ---- values ----

    private static long valueOf(int sort, int number) {
        return 4L * number + sort;
    }

    private static int sortOf(long value) {
        return (int) (value & 3L);
    }

    private static int numberOf(long value) {
        return (int) (value >> 2);
    }

    private static boolean isInt(long value) {
        return (value & 3L) == SORT_INT;
    }

    private static boolean isTable(long value) {
        return (value & 3L) == SORT_TABLE;
    }

    // What can be seen of a value from outside, where the place of a table plays no part.
    private int seenNumber(long value) {
        int number = numberOf(value);
        return isTable(value) ? sizes[number] : number;
    }

    // ---- tables ----

    private long newTable() {
        for (int place = 0; place < HEAP; place++) {
            if (!inUse[place]) {
                inUse[place] = true;
                sizes[place] = 0;
                return valueOf(SORT_TABLE, place);
            }
        }
        // Not come to: HEAP counts every table that a statement can make.
        return FAILED;
    }

    private long entryOf(int place, int key) {
        int at = findEntry(place, key);
        return at == NO_ENTRY ? NOTHING : entries[at];
    }

    private int findEntry(int place, int key) {
        int first = place * MOST_ENTRIES;
        for (int i = 0; i < sizes[place]; i++) {
            if (keys[first + i] == key) {
                return first + i;
            }
        }
        return NO_ENTRY;
    }

    // Answers whether it could be done.
    private boolean putEntry(long table, long key, long entry) {
        if (!isTable(table) || !isInt(key) || entry == FAILED) {
            return false;
        }
        int place = numberOf(table);
        int wanted = numberOf(key);
        int at = findEntry(place, wanted);
        if (entry == NOTHING) {
            removeEntry(place, at);
            return true;
        }
        if (at == NO_ENTRY) {
            if (sizes[place] >= MOST_ENTRIES) {
                return false;
            }
            at = place * MOST_ENTRIES + sizes[place];
            sizes[place]++;
        }
        keys[at] = wanted;
        entries[at] = entry;
        return true;
    }

    // The last entry fills the gap: entries have no order.
    private void removeEntry(int place, int at) {
        if (at == NO_ENTRY) {
            return;
        }
        sizes[place]--;
        int last = place * MOST_ENTRIES + sizes[place];
        keys[at] = keys[last];
        entries[at] = entries[last];
    }

    // Frees every table that can't be come to from the variables; answers how many are left.
    private int collect() {
        for (int place = 0; place < HEAP; place++) {
            inUse[place] = false;
        }
        foundCount = 0;
        for (int v = 0; v < VARIABLES; v++) {
            keep(variables[v]);
        }
        for (int i = 0; i < HEAP && i < foundCount; i++) {
            int first = found[i] * MOST_ENTRIES;
            int size = sizes[found[i]];
            for (int k = 0; k < size; k++) {
                keep(entries[first + k]);
            }
        }
        return foundCount;
    }

    private void keep(long value) {
        if (!isTable(value)) {
            return;
        }
        int place = numberOf(value);
        if (!inUse[place]) {
            inUse[place] = true;
            found[foundCount] = place;
            foundCount++;
        }
    }

    // ---- statements ----

    public int state(int op, int x, int y, int z) {
        if (statementCount >= MOST_STATEMENTS) {
            return FULL;
        }
        if (!isStatement(op, x, y, z)) {
            return BAD;
        }
        ops[statementCount] = op;
        operandsX[statementCount] = x;
        operandsY[statementCount] = y;
        operandsZ[statementCount] = z;
        statementCount++;
        return statementCount;
    }

    private boolean isStatement(int op, int x, int y, int z) {
        switch (op) {
            case OP_LET:
                return isVariable(x) && isExpression(y);
            case OP_PUT:
                return isExpression(x) && isExpression(y) && isExpression(z);
            case OP_IF:
                return isExpression(x) && canBeNamed(y);
            case OP_LOOP:
                return isVariable(x) && isExpression(y) && canBeNamed(z);
            case OP_SHOW:
                return isExpression(x);
            default:
                return false;
        }
    }

    private static boolean canBeNamed(int n) {
        return n >= 1 && n <= MOST_NAMED;
    }

    public int retract() {
        if (statementCount == 0) {
            return BAD;
        }
        statementCount--;
        return statementCount;
    }

    public boolean sound() {
        for (int s = 0; s < statementCount; s++) {
            if (!namesSoundly(s) || loopsOver(s) > MOST_LOOPS) {
                return false;
            }
        }
        return true;
    }

    private boolean namesSoundly(int s) {
        int last = lastNamed(s);
        if (last >= statementCount) {
            return false;
        }
        for (int inner = s + 1; inner <= last; inner++) {
            if (lastNamed(inner) > last) {
                return false;
            }
        }
        return true;
    }

    private int loopsOver(int s) {
        int loops = 0;
        for (int outer = 0; outer < s; outer++) {
            if (ops[outer] == OP_LOOP && lastNamed(outer) >= s) {
                loops++;
            }
        }
        return loops;
    }

    // The statement itself if it is one that names none.
    private int lastNamed(int s) {
        if (ops[s] == OP_IF) {
            return s + operandsY[s];
        }
        return ops[s] == OP_LOOP ? s + operandsZ[s] : s;
    }

    // ---- running ----

    public int run() {
        if (!sound()) {
            return UNSOUND;
        }
        for (int v = 0; v < VARIABLES; v++) {
            variables[v] = NOTHING;
        }
        outputCount = 0;
        openLoops = 0;
        int at = 0;
        for (int step = 0; step < MOST_STEPS && at < statementCount; step++) {
            int next = execute(at);
            if (next == STOP) {
                return at;
            }
            at = turnLoops(next);
        }
        return NONE;
    }

    // Answers the statement that is next if no LOOP goes back, or STOP if this one fails.
    private int execute(int s) {
        if (collect() > MOST_TABLES) {
            return STOP;
        }
        int op = ops[s];
        if (op == OP_PUT) {
            long table = workOut(operandsX[s]);
            long key = workOut(operandsY[s]);
            long entry = workOut(operandsZ[s]);
            return putEntry(table, key, entry) ? s + 1 : STOP;
        }
        // For these two operand x is the variable.
        int e = op == OP_LET || op == OP_LOOP ? operandsY[s] : operandsX[s];
        long value = workOut(e);
        if (value == FAILED) {
            return STOP;
        }
        switch (op) {
            case OP_LET:
                variables[operandsX[s]] = value;
                return s + 1;
            case OP_IF:
                return value == NOTHING ? lastNamed(s) + 1 : s + 1;
            case OP_LOOP:
                return openLoop(s, value);
            default: // OP_SHOW
                show(value);
                return s + 1;
        }
    }

    // A LOOP begins as if a turn 0 were over; turnLoops then begins turn 1, or closes it again.
    // Sound statements have no place for a third LOOP to be open.
    private int openLoop(int s, long value) {
        if (!isInt(value)) {
            return STOP;
        }
        int limit = numberOf(value);
        loopStatements[openLoops] = s;
        loopTurns[openLoops] = 0;
        loopLimits[openLoops] = limit > MOST_TURNS ? MOST_TURNS : limit;
        openLoops++;
        return lastNamed(s) + 1;
    }

    // Several LOOPs can end at one statement, so each that is over hands on to the one around it.
    private int turnLoops(int next) {
        for (int top = openLoops - 1; top >= 0; top--) {
            int s = loopStatements[top];
            if (next <= lastNamed(s)) {
                return next;
            }
            if (loopTurns[top] < loopLimits[top]) {
                loopTurns[top]++;
                variables[operandsX[s]] = valueOf(SORT_INT, loopTurns[top]);
                return s + 1;
            }
            openLoops = top;
        }
        return next;
    }

    private void show(long value) {
        if (outputCount < MOST_OUTPUT) {
            int sort = sortOf(value);
            int number = seenNumber(value);
            outputs[outputCount] = valueOf(sort, number);
        }
        outputCount++;
    }

    // ---- what a run left ----

    public int sort(int v) {
        return isVariable(v) ? sortOf(variables[v]) : BAD;
    }

    public int number(int v) {
        return isVariable(v) ? seenNumber(variables[v]) : 0;
    }

    public int entrySort(int v, int key) {
        if (!isVariable(v)) {
            return BAD;
        }
        if (!isTable(variables[v])) {
            return NONE;
        }
        int place = numberOf(variables[v]);
        long entry = entryOf(place, key);
        return sortOf(entry);
    }

    public int entryNumber(int v, int key) {
        if (!isVariable(v) || !isTable(variables[v])) {
            return 0;
        }
        int place = numberOf(variables[v]);
        long entry = entryOf(place, key);
        return seenNumber(entry);
    }

    public boolean same(int v, int w) {
        return isVariable(v) && isVariable(w) && variables[v] == variables[w];
    }

    public int shown() {
        return outputCount;
    }

    public long output(int k) {
        return k >= 0 && k < outputCount && k < MOST_OUTPUT ? outputs[k] : -1L;
    }

    public int tables() {
        return collect();
    }
}
