import java.util.ArrayDeque;
import java.util.ArrayList;
import java.util.Collections;
import java.util.HashMap;
import java.util.IdentityHashMap;
import java.util.List;
import java.util.Map;
import java.util.Set;

/*
 * Many made-up objects, each call answered by TableMachine and by a plain model that works the
 * expressions out recursively over objects and never collects. The numbers that make the calls
 * up come from a fixed rule, so every run of this test is the same.
 */
public final class ModelTest {
    private static final int OBJECTS = 12000;
    private static final int CALLS = 512;

    private static int wrong = 0;
    private static final Map<String, Integer> seen = new HashMap<>();

    private static void saw(String what) {
        seen.merge(what, 1, Integer::sum);
    }

    // ---- the model ----

    private static final class Table {
        final Map<Integer, Object> entries = new HashMap<>();
    }

    private static final class Failure extends RuntimeException {
        private static final long serialVersionUID = 1L;
        final int statement;

        Failure(int statement) {
            super(null, null, false, false);
            this.statement = statement;
        }
    }

    private static final class Model {
        final List<int[]> expressions = new ArrayList<>();
        final List<int[]> statements = new ArrayList<>();
        final Object[] variables = new Object[6];
        final List<Long> output = new ArrayList<>();

        boolean expression(int e) {
            return e >= 0 && e < expressions.size();
        }

        static boolean variable(int v) {
            return v >= 0 && v <= 5;
        }

        int weight(int e) {
            int[] it = expressions.get(e);
            int sum = 1;
            if (it[0] >= 2 && it[0] != 11) {
                sum += weight(it[1]);
            }
            if (it[0] >= 2 && it[0] <= 8 || it[0] == 10) {
                sum += weight(it[2]);
            }
            return sum;
        }

        int express(int kind, int x, int y) {
            if (expressions.size() == 30) {
                saw("express: 30 are there");
                return TableMachine.FULL;
            }
            boolean good = switch (kind) {
                case 0, 11 -> true;
                case 1 -> variable(x);
                case 2, 3, 4, 5, 6, 7, 8, 10 -> expression(x) && expression(y);
                case 9, 12 -> expression(x);
                default -> false;
            };
            if (!good) {
                saw("express: bad");
                return TableMachine.BAD;
            }
            expressions.add(new int[] {kind, x, y});
            int made = expressions.size() - 1;
            if (weight(made) > 7) {
                expressions.remove(made);
                saw("express: too heavy");
                return TableMachine.FULL;
            }
            return made;
        }

        int state(int op, int x, int y, int z) {
            if (statements.size() == 14) {
                saw("state: 14 are there");
                return TableMachine.FULL;
            }
            boolean good = switch (op) {
                case 0 -> variable(x) && expression(y);
                case 1 -> expression(x) && expression(y) && expression(z);
                case 2 -> expression(x) && y >= 1 && y <= 6;
                case 3 -> variable(x) && expression(y) && z >= 1 && z <= 6;
                case 4 -> expression(x);
                default -> false;
            };
            if (!good) {
                saw("state: bad");
                return TableMachine.BAD;
            }
            statements.add(new int[] {op, x, y, z});
            return statements.size();
        }

        int retract() {
            if (statements.isEmpty()) {
                return TableMachine.BAD;
            }
            statements.remove(statements.size() - 1);
            return statements.size();
        }

        int named(int s) {
            int[] it = statements.get(s);
            return it[0] == 2 ? it[2] : it[0] == 3 ? it[3] : 0;
        }

        boolean names(int outer, int s) {
            return s > outer && s <= outer + named(outer);
        }

        boolean sound() {
            int count = statements.size();
            for (int s = 0; s < count; s++) {
                if (s + named(s) >= count) {
                    saw("unsound: not all there");
                    return false;
                }
            }
            for (int outer = 0; outer < count; outer++) {
                for (int inner = 0; inner < count; inner++) {
                    for (int s = 0; s < count; s++) {
                        if (names(outer, inner) && names(inner, s) && !names(outer, s)) {
                            saw("unsound: crossing");
                            return false;
                        }
                    }
                }
            }
            for (int s = 0; s < count; s++) {
                int loops = 0;
                for (int outer = 0; outer < count; outer++) {
                    if (statements.get(outer)[0] == 3 && names(outer, s)) {
                        loops++;
                    }
                }
                if (loops > 2) {
                    saw("unsound: three LOOPs");
                    return false;
                }
            }
            return true;
        }

        int run() {
            if (!sound()) {
                return TableMachine.UNSOUND;
            }
            for (int v = 0; v < 6; v++) {
                variables[v] = null;
            }
            output.clear();
            try {
                range(0, statements.size());
            } catch (Failure failure) {
                return failure.statement;
            }
            saw(tables() > 8 ? "run: ends with 9 tables" : "run: ends");
            return TableMachine.NONE;
        }

        void range(int from, int end) {
            int s = from;
            while (s < end) {
                one(s);
                s += 1 + named(s);
            }
        }

        void one(int s) {
            if (tables() > 8) {
                saw("fails: more than 8 tables");
                throw new Failure(s);
            }
            int[] it = statements.get(s);
            switch (it[0]) {
                case 0 -> variables[it[1]] = value(s, it[2]);
                case 1 -> put(s, value(s, it[1]), value(s, it[2]), value(s, it[3]));
                case 2 -> {
                    if (value(s, it[1]) != null) {
                        range(s + 1, s + 1 + it[2]);
                    } else {
                        saw("IF: left out");
                    }
                }
                case 3 -> loop(s, it[1], value(s, it[2]), it[3]);
                default -> output.add(4L * amount(value(s, it[1])) + sort(value(s, it[1])));
            }
        }

        void put(int s, Object table, Object key, Object entry) {
            if (!(table instanceof Table) || !(key instanceof Integer)) {
                saw("fails: PUT");
                throw new Failure(s);
            }
            Map<Integer, Object> entries = ((Table) table).entries;
            if (entry == null) {
                saw(entries.remove(key) != null ? "PUT: takes away" : "PUT: none to take away");
            } else if (entries.size() == 6 && !entries.containsKey(key)) {
                saw("fails: 7 entries");
                throw new Failure(s);
            } else {
                saw(entries.put((Integer) key, entry) != null ? "PUT: in the place of one" : "PUT: one more");
            }
        }

        void loop(int s, int v, Object limit, int n) {
            if (!(limit instanceof Integer)) {
                saw("fails: LOOP");
                throw new Failure(s);
            }
            for (int turn = 1; turn <= 5 && turn <= (Integer) limit; turn++) {
                saw("LOOP: turn " + turn);
                variables[v] = turn;
                range(s + 1, s + 1 + n);
            }
        }

        static int whole(int s, Object value) {
            if (!(value instanceof Integer)) {
                throw new Failure(s);
            }
            return (Integer) value;
        }

        static Table table(int s, Object value) {
            if (!(value instanceof Table)) {
                throw new Failure(s);
            }
            return (Table) value;
        }

        static Object truth(boolean holds) {
            return holds ? (Object) 1 : null;
        }

        static boolean sameValue(Object a, Object b) {
            return a instanceof Integer ? a.equals(b) : a == b;
        }

        Object value(int s, int e) {
            int[] it = expressions.get(e);
            int kind = it[0];
            if (kind == 0) {
                return it[1];
            }
            if (kind == 1) {
                return variables[it[1]];
            }
            if (kind == 11) {
                return new Table();
            }
            Object x = value(s, it[1]);
            if (kind == 7) {
                return x == null ? null : value(s, it[2]);
            }
            if (kind == 8) {
                return x != null ? x : value(s, it[2]);
            }
            if (kind == 9) {
                return truth(x == null);
            }
            if (kind == 12) {
                return table(s, x).entries.size();
            }
            Object y = value(s, it[2]);
            saw("kind " + kind);
            return switch (kind) {
                case 2 -> whole(s, x) + whole(s, y);
                case 3 -> whole(s, x) - whole(s, y);
                case 4 -> whole(s, x) * whole(s, y);
                case 5 -> truth(whole(s, x) < whole(s, y));
                case 6 -> truth(sameValue(x, y));
                default -> table(s, x).entries.get(whole(s, y));
            };
        }

        static int sort(Object value) {
            return value == null ? 0 : value instanceof Integer ? 1 : 2;
        }

        static int amount(Object value) {
            return value == null ? 0 : value instanceof Integer i ? i : ((Table) value).entries.size();
        }

        int tables() {
            Set<Object> reached = Collections.newSetFromMap(new IdentityHashMap<>());
            ArrayDeque<Object> open = new ArrayDeque<>();
            for (Object value : variables) {
                if (value != null) {
                    open.add(value);
                }
            }
            while (!open.isEmpty()) {
                Object value = open.remove();
                if (value instanceof Table && reached.add(value)) {
                    open.addAll(((Table) value).entries.values());
                }
            }
            return reached.size();
        }

        int entrySort(int v, int key) {
            if (!variable(v)) {
                return TableMachine.BAD;
            }
            return variables[v] instanceof Table t ? sort(t.entries.get(key)) : TableMachine.NONE;
        }

        int entryNumber(int v, int key) {
            return variable(v) && variables[v] instanceof Table t ? amount(t.entries.get(key)) : 0;
        }

        boolean same(int v, int w) {
            return variable(v) && variable(w) && sameValue(variables[v], variables[w]);
        }

        long output(int k) {
            return k >= 0 && k < output.size() && k <= 29 ? output.get(k) : -1L;
        }
    }

    // ---- numbers by a fixed rule ----

    private long mix = 1;

    private int below(int bound) {
        mix = mix * 6364136223846793005L + 1442695040888963407L;
        return (int) ((mix >>> 33) % bound);
    }

    private int between(int low, int high) {
        return low + below(high - low + 1);
    }

    private boolean chance(int percent) {
        return below(100) < percent;
    }

    // ---- one object ----

    private final TableMachine machine = new TableMachine();
    private final Model model = new Model();
    private final List<String> calls = new ArrayList<>();
    private final int object;
    private boolean agrees = true;

    private ModelTest(int object) {
        this.object = object;
        this.mix = 1000003L * object + 17;
    }

    private void due(String call, long got, long want) {
        calls.add(call);
        if (got != want && agrees) {
            agrees = false;
            wrong++;
            if (wrong <= 3) {
                System.out.println("object " + object + ":");
                for (String earlier : calls) {
                    System.out.println("  " + earlier);
                }
                System.out.println("  answered " + got + ", due is " + want);
            }
        }
    }

    private boolean room(int needed) {
        return agrees && calls.size() + needed <= CALLS;
    }

    private int express(int kind, int x, int y) {
        int want = model.express(kind, x, y);
        due("express(" + kind + ", " + x + ", " + y + ")", machine.express(kind, x, y), want);
        return want;
    }

    private void state(int op, int x, int y, int z) {
        int want = model.state(op, x, y, z);
        due("state(" + op + ", " + x + ", " + y + ", " + z + ")", machine.state(op, x, y, z), want);
    }

    private int anyInt() {
        int[] edges = {Integer.MIN_VALUE, Integer.MAX_VALUE, -1, 0, 1, 2, 65536, 30, 31};
        return chance(80) ? between(-1, 7) : edges[below(edges.length)];
    }

    private int anyExpression() {
        int count = model.expressions.size();
        return chance(3) ? anyInt() : count == 0 ? 0 : below(count);
    }

    private void leaf() {
        int which = below(10);
        if (which < 3) {
            express(0, anyInt(), anyInt());
        } else if (which < 8) {
            express(1, chance(3) ? anyInt() : below(6), anyInt());
        } else {
            express(11, anyInt(), anyInt());
        }
    }

    private void anyKind() {
        if (chance(25)) {
            leaf();
        } else {
            express(chance(3) ? anyInt() * 3 : between(2, 12), anyExpression(), anyExpression());
        }
    }

    private void anyStatement() {
        int op = chance(2) ? anyInt() : below(5);
        int n = chance(3) ? anyInt() : between(1, chance(50) ? 2 : 6);
        if (op == 2) {
            state(op, anyExpression(), n, anyInt());
        } else if (op == 3) {
            state(op, chance(3) ? anyInt() : below(6), anyExpression(), n);
        } else if (op == 0) {
            state(op, chance(3) ? anyInt() : below(6), anyExpression(), anyInt());
        } else {
            state(op, anyExpression(), anyExpression(), anyExpression());
        }
    }

    // Expressions 0 to 5 are the variables, 6 to 12 ints that serve as keys, 13 a new table,
    // 14 nothing and 15 the sum of the LOOPs' variables; variables 0 to 2 mostly have tables and 3 to 5
    // mostly ints, so that few runs fail at once.
    private void likelyExpressions() {
        for (int v = 0; v < 6; v++) {
            express(1, v, 0);
        }
        for (int i = 0; i < 7; i++) {
            express(0, i, 0);
        }
        express(11, 0, 0);
        express(9, 6, 0);
        express(2, 3, 4);
        while (model.expressions.size() < 28) {
            int table = below(3);
            int number = between(3, 12);
            switch (below(8)) {
                case 0 -> express(10, table, number);
                case 1 -> express(8, table, 13);
                case 2 -> express(2 + below(3), number, between(3, 12));
                case 3 -> express(12, table, 0);
                case 4 -> express(5 + below(2), number, between(3, 12));
                case 5 -> express(7, between(0, 14), between(0, 14));
                case 6 -> express(7 + below(2), below(model.expressions.size()), below(model.expressions.size()));
                default -> anyKind();
            }
        }
    }

    private int likelyTable() {
        return chance(85) ? below(3) : chance(30) ? 13 : between(16, model.expressions.size() - 1);
    }

    private int likelyValue() {
        return chance(60) ? 13 : chance(40) ? likelyTable() : chance(40) ? 14 : below(model.expressions.size());
    }

    private int likelyInt() {
        return chance(90) ? between(6, 12) : below(model.expressions.size());
    }

    // A new key each turn makes tables fill up.
    private int likelyKey(int loops) {
        if (loops == 2 && chance(60)) {
            return 15;
        }
        return loops > 0 && chance(80) ? 2 + between(1, loops) : likelyInt();
    }

    private void likelySingle(int loops) {
        switch (below(8)) {
            case 0, 1 -> state(0, below(3), likelyTable(), 0);
            case 2 -> state(0, 5, likelyInt(), 0);
            case 3, 4, 5, 6 -> state(1, likelyTable(), likelyKey(loops), likelyValue());
            default -> state(4, below(model.expressions.size()), 0, 0);
        }
    }

    // Adds so many statements, most often sound ones; LOOPs use variables 3 and 4.
    private void likelyBlock(int count, int loops) {
        int left = count;
        while (left > 0) {
            int n = left > 1 ? between(1, Math.min(6, left - 1)) : 0;
            if (n > 0 && chance(15)) {
                state(2, chance(40) ? 14 : below(model.expressions.size()), n, 0);
                likelyBlock(n, loops);
            } else if (n > 0 && chance(loops < 2 ? 35 : 3)) {
                state(3, chance(90) ? 3 + loops : below(6), chance(90) ? between(6, 12) : likelyInt(), n);
                likelyBlock(n, Math.min(2, loops + 1));
            } else {
                n = 0;
                likelySingle(loops);
            }
            left -= n + 1;
        }
    }

    private void likelyProgram() {
        state(0, 0, 13, 0);
        state(0, 1, 13, 0);
        state(0, 2, chance(50) ? 13 : 0, 0);
        likelyBlock(between(1, 12), 0);
    }

    private void runOnce() {
        due("sound()", machine.sound() ? 1 : 0, model.sound() ? 1 : 0);
        while (!model.sound() && !model.statements.isEmpty() && chance(90) && room(2)) {
            if (model.statements.size() < 14 && chance(60)) {
                state(4, below(model.expressions.size()), 0, 0);
            } else {
                due("retract()", machine.retract(), model.retract());
            }
        }
        due("run()", machine.run(), model.run());
    }

    private void lookAtAll() {
        for (int v = -1; v <= 6; v++) {
            int wantSort = Model.variable(v) ? Model.sort(model.variables[v]) : TableMachine.BAD;
            int wantNumber = Model.variable(v) ? Model.amount(model.variables[v]) : 0;
            due("sort(" + v + ")", machine.sort(v), wantSort);
            due("number(" + v + ")", machine.number(v), wantNumber);
            for (int i = 0; i < 3; i++) {
                int key = anyInt();
                due("entrySort(" + v + ", " + key + ")", machine.entrySort(v, key), model.entrySort(v, key));
                due("entryNumber(" + v + ", " + key + ")", machine.entryNumber(v, key), model.entryNumber(v, key));
            }
            int w = between(-1, 6);
            due("same(" + v + ", " + w + ")", machine.same(v, w) ? 1 : 0, model.same(v, w) ? 1 : 0);
        }
        due("shown()", machine.shown(), model.output.size());
        for (int i = 0; i < 8; i++) {
            int k = chance(50) ? below(4) : between(-1, 31);
            due("output(" + k + ")", machine.output(k), model.output(k));
        }
        due("tables()", machine.tables(), model.tables());
    }

    private void anyProgram() {
        for (int i = below(9); i > 0; i--) {
            if (chance(50)) {
                anyKind();
            }
            anyStatement();
        }
    }

    private void live() {
        boolean likely = object % 4 != 0;
        if (likely) {
            likelyExpressions();
        } else {
            for (int i = 0; i < 12; i++) {
                leaf();
            }
        }
        while (room(130)) {
            if (likely) {
                likelyProgram();
                anyKind();
                anyKind();
            } else {
                anyProgram();
            }
            runOnce();
            if (room(84)) {
                lookAtAll();
            }
            for (int i = likely ? 14 : below(6); i > 0 && room(1) && (i > 1 || chance(50)); i--) {
                due("retract()", machine.retract(), model.retract());
            }
        }
    }

    public static void main(String[] args) {
        for (int object = 0; object < OBJECTS; object++) {
            new ModelTest(object).live();
        }
        String[] needed = {"express: 30 are there", "express: bad", "express: too heavy", "state: 14 are there",
            "state: bad", "unsound: not all there", "unsound: crossing", "unsound: three LOOPs", "run: ends",
            "run: ends with 9 tables", "fails: more than 8 tables", "fails: PUT", "fails: 7 entries", "fails: LOOP",
            "IF: left out", "PUT: takes away", "PUT: none to take away", "PUT: in the place of one", "PUT: one more",
            "LOOP: turn 5", "kind 2", "kind 3", "kind 4", "kind 5", "kind 6", "kind 10"};
        for (String what : needed) {
            if (seen.getOrDefault(what, 0) < 50) {
                wrong++;
                System.out.println("the made-up calls hardly reach '" + what + "': " + seen.getOrDefault(what, 0));
            }
        }
        if (args.length > 0) {
            seen.forEach((what, times) -> System.out.println(what + ": " + times));
        }
        System.out.println(wrong == 0 ? "all answers are those of the model" : wrong + " objects or reaches are wrong");
        if (wrong != 0) {
            System.exit(1);
        }
    }
}
