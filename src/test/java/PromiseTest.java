import java.lang.reflect.Constructor;
import java.lang.reflect.Field;
import java.lang.reflect.Method;
import java.lang.reflect.Modifier;
import java.util.Arrays;
import java.util.Set;
import java.util.TreeSet;

/*
 * Each promise of the document by itself: ordinary inputs, the edges that the document names, and
 * wrong inputs. A wrong answer is printed with the number of its promise (0: the public face).
 */
public final class PromiseTest {
    private static final int MIN = Integer.MIN_VALUE;
    private static final int MAX = Integer.MAX_VALUE;
    private static final int BAD = TableMachine.BAD;
    private static final int FULL = TableMachine.FULL;
    private static final int UNSOUND = TableMachine.UNSOUND;
    private static final int NONE = TableMachine.NONE;

    private static final int LET = 0;
    private static final int PUT = 1;
    private static final int IF = 2;
    private static final int LOOP = 3;
    private static final int SHOW = 4;

    // What every prepared machine has as its first expressions.
    private static final int V0 = 0;
    private static final int V1 = 1;
    private static final int V2 = 2;
    private static final int V5 = 3;
    private static final int NEW = 4;
    private static final int N0 = 5;
    private static final int N1 = 6;
    private static final int N2 = 7;
    private static final int N9 = 8;
    private static final int NOTHING = 9;
    private static final int FAILS = 10;
    private static final int PREPARED = 11;

    private static int wrong = 0;
    private static int promise = 0;

    private static void due(String what, long got, long want) {
        if (got != want) {
            wrong++;
            System.out.println("promise " + promise + ": " + what + " answered " + got + ", due is " + want);
        }
    }

    private static void due(String what, boolean got, boolean want) {
        due(what, got ? 1 : 0, want ? 1 : 0);
    }

    private static TableMachine prepared() {
        TableMachine m = new TableMachine();
        due("v0", m.express(1, 0, 0), V0);
        due("v1", m.express(1, 1, 0), V1);
        due("v2", m.express(1, 2, 0), V2);
        due("v5", m.express(1, 5, 0), V5);
        due("a new table", m.express(11, 0, 0), NEW);
        due("0", m.express(0, 0, 0), N0);
        due("1", m.express(0, 1, 0), N1);
        due("2", m.express(0, 2, 0), N2);
        due("9", m.express(0, 9, 0), N9);
        due("nothing", m.express(9, N1, 0), NOTHING);
        due("a failing one", m.express(12, N1, 0), FAILS);
        return m;
    }

    private static void add(TableMachine m, int op, int x, int y, int z) {
        int answer = m.state(op, x, y, z);
        if (answer < 1) {
            due("adding a statement", answer, 1);
        }
    }

    private static void clear(TableMachine m) {
        while (m.retract() > 0) {
            continue;
        }
    }

    // Works an expression out by a program that only shows it; FAILED is a long that no output can be.
    private static final long FAILED = -1L;

    private static long valueOf(TableMachine m, int e) {
        clear(m);
        add(m, SHOW, e, 0, 0);
        int answer = m.run();
        due("shown after running", m.shown(), answer == NONE ? 1 : 0);
        return answer == NONE ? m.output(0) : FAILED;
    }

    private static long anInt(int n) {
        return 4L * n + 1;
    }

    private static long aTable(int entries) {
        return 4L * entries + 2;
    }

    // ---- the public face ----

    private static void face() {
        promise = 0;
        due("BAD", TableMachine.BAD, -1);
        due("FULL", TableMachine.FULL, -2);
        due("UNSOUND", TableMachine.UNSOUND, -3);
        due("NONE", TableMachine.NONE, -4);
        Set<String> wanted = new TreeSet<>(Arrays.asList("BAD", "FULL", "UNSOUND", "NONE", "TableMachine()",
            "int express(int, int, int)", "int state(int, int, int, int)", "int retract()", "boolean sound()",
            "int run()", "int sort(int)", "int number(int)", "int entrySort(int, int)", "int entryNumber(int, int)",
            "boolean same(int, int)", "int shown()", "long output(int)", "int tables()"));
        Set<String> found = new TreeSet<>();
        for (Field field : TableMachine.class.getDeclaredFields()) {
            if (!Modifier.isPrivate(field.getModifiers())) {
                found.add(field.getName());
            }
        }
        for (Constructor<?> constructor : TableMachine.class.getDeclaredConstructors()) {
            found.add("TableMachine" + types(constructor.getParameterTypes()));
        }
        for (Method method : TableMachine.class.getDeclaredMethods()) {
            if (!Modifier.isPrivate(method.getModifiers())) {
                found.add(method.getReturnType() + " " + method.getName() + types(method.getParameterTypes()));
            }
        }
        if (!found.equals(wanted)) {
            wrong++;
            System.out.println("the face is " + found + ", due is " + wanted);
        }
        due("the class is public and final", TableMachine.class.getModifiers(), Modifier.PUBLIC | Modifier.FINAL);
    }

    private static String types(Class<?>[] types) {
        String text = Arrays.toString(types);
        return "(" + text.substring(1, text.length() - 1) + ")";
    }

    // ---- promise 1 ----

    private static void newObject() {
        promise = 1;
        TableMachine m = new TableMachine();
        for (int v = 0; v < 6; v++) {
            due("sort of a variable", m.sort(v), 0);
            due("number of a variable", m.number(v), 0);
            due("entrySort of a variable", m.entrySort(v, 0), NONE);
            due("same as variable 0", m.same(0, v), true);
        }
        due("shown", m.shown(), 0);
        due("output(0)", m.output(0), -1);
        due("tables", m.tables(), 0);
        due("no statements are sound", m.sound(), true);
        due("no expression 0", m.express(9, 0, 0), BAD);
        due("SHOW without expressions", m.state(SHOW, 0, 0, 0), BAD);
        due("retract", m.retract(), BAD);
        due("run", m.run(), NONE);
        due("the first expression", m.express(0, 0, 0), 0);
        TableMachine other = new TableMachine();
        due("objects share nothing", other.express(9, 0, 0), BAD);
    }

    // ---- promise 2 ----

    private static void expressAnswers() {
        promise = 2;
        TableMachine m = new TableMachine();
        int[] badKinds = {-1, 13, MIN, MAX, -13, 16};
        for (int kind : badKinds) {
            due("express of kind " + kind, m.express(kind, 0, 0), BAD);
        }
        int[] badVariables = {-1, 6, MIN, MAX};
        for (int v : badVariables) {
            due("express of variable " + v, m.express(1, v, 0), BAD);
        }
        due("the first int", m.express(0, MIN, MAX), 0);
        due("variable 5", m.express(1, 5, MIN), 1);
        due("a new table", m.express(11, MAX, -1), 2);
        int[] twoParts = {2, 3, 4, 5, 6, 7, 8, 10};
        int[] badParts = {-1, MIN, MAX, 30};
        for (int kind : twoParts) {
            for (int part : badParts) {
                due("kind " + kind + " x " + part, m.express(kind, part, 0), BAD);
                due("kind " + kind + " y " + part, m.express(kind, 0, part), BAD);
            }
        }
        for (int part : badParts) {
            due("kind 9 of " + part, m.express(9, part, 0), BAD);
            due("kind 12 of " + part, m.express(12, part, 0), BAD);
        }
        for (int kind : badKinds) {
            due("express of kind " + kind + " with parts", m.express(kind, 0, 0), BAD);
        }
        due("itself as a part", m.express(2, 0, 3), BAD);
        due("itself as the only part", m.express(9, 3, 0), BAD);
        due("the latest as a part", m.express(2, 2, 2), 3);
        due("kind 9 has one part", m.express(9, 3, MIN), 4);
        due("kind 12 has one part", m.express(12, 3, -1), 5);
    }

    private static void expressWeight() {
        promise = 2;
        TableMachine m = new TableMachine();
        due("weight 1", m.express(0, 1, 0), 0);
        for (int weight = 2; weight <= 7; weight++) {
            due("weight " + weight, m.express(9, weight - 2, 0), weight - 1);
        }
        due("kind 9, weight 8", m.express(9, 6, 0), FULL);
        due("kind 12, weight 8", m.express(12, 6, 0), FULL);
        int[] twoParts = {2, 3, 4, 5, 6, 7, 8, 10};
        int made = 7;
        for (int kind : twoParts) {
            due("3 and 3", m.express(kind, 2, 2), made);
            due("1 and 5", m.express(kind, 0, 4), made + 1);
            due("3 and 4", m.express(kind, 2, 3), FULL);
            due("4 and 3", m.express(kind, 3, 2), FULL);
            due("7 and 7", m.express(kind, 6, 6), FULL);
            due("bad comes before heavy", m.express(kind, 6, -1), BAD);
            due("bad comes before heavy", m.express(kind, -1, 6), BAD);
            made += 2;
        }
        while (made < 29) {
            due("up to 29", m.express(11, 0, 0), made);
            made++;
        }
        due("the last one, as heavy as can be", m.express(7, 2, 2), made);
        due("expression 31", m.express(0, 0, 0), FULL);
        due("full comes before a bad kind", m.express(13, 0, 0), FULL);
        due("full comes before bad parts", m.express(2, -1, -1), FULL);
        due("number 29 is there", m.state(SHOW, 29, 0, 0), 1);
        due("number 30 is not", m.state(SHOW, 30, 0, 0), BAD);
    }

    private static void expressValues() {
        promise = 2;
        int[] numbers = {MIN, MAX, 0, 1, -1, 65536, -7};
        for (int a : numbers) {
            for (int b : numbers) {
                TableMachine m = new TableMachine();
                m.express(0, a, 0);
                m.express(0, b, 0);
                due("int", valueOf(m, 0), anInt(a));
                due(a + " + " + b, valueOf(m, m.express(2, 0, 1)), anInt(a + b));
                due(a + " - " + b, valueOf(m, m.express(3, 0, 1)), anInt(a - b));
                due(a + " * " + b, valueOf(m, m.express(4, 0, 1)), anInt(a * b));
                due(a + " < " + b, valueOf(m, m.express(5, 0, 1)), a < b ? anInt(1) : 0);
                due(a + " same " + b, valueOf(m, m.express(6, 0, 1)), a == b ? anInt(1) : 0);
            }
        }
    }

    private static void expressFailures() {
        promise = 2;
        int[] kinds = {2, 3, 4, 5};
        int[] noInts = {NEW, NOTHING, V0, FAILS};
        for (int kind : kinds) {
            TableMachine m = prepared();
            for (int part : noInts) {
                due("kind " + kind + ", x no int", valueOf(m, m.express(kind, part, N1)), FAILED);
                due("kind " + kind + ", y no int", valueOf(m, m.express(kind, N1, part)), FAILED);
            }
        }
        TableMachine m = prepared();
        due("the failing one", valueOf(m, FAILS), FAILED);
        due("count of an int", valueOf(m, m.express(12, N0, 0)), FAILED);
        due("count of nothing", valueOf(m, m.express(12, NOTHING, 0)), FAILED);
        due("count of a new table", valueOf(m, m.express(12, NEW, 0)), anInt(0));
        due("entry of an int", valueOf(m, m.express(10, N1, N1)), FAILED);
        due("entry of nothing", valueOf(m, m.express(10, NOTHING, N1)), FAILED);
        due("entry for nothing", valueOf(m, m.express(10, NEW, NOTHING)), FAILED);
        due("entry for a table", valueOf(m, m.express(10, NEW, NEW)), FAILED);
        due("entry that is not there", valueOf(m, m.express(10, NEW, N1)), 0);
        due("not of a failing one", valueOf(m, m.express(9, FAILS, 0)), FAILED);
        due("count of a failing one", valueOf(m, m.express(12, FAILS, 0)), FAILED);
        due("same of a failing one", valueOf(m, m.express(6, FAILS, N1)), FAILED);
        due("same with a failing one", valueOf(m, m.express(6, N1, FAILS)), FAILED);
        due("entry for a failing one", valueOf(m, m.express(10, NEW, FAILS)), FAILED);
    }

    private static void expressChoices() {
        promise = 2;
        TableMachine m = prepared();
        due("nothing and a failing one", valueOf(m, m.express(7, NOTHING, FAILS)), 0);
        due("0 and 9", valueOf(m, m.express(7, N0, N9)), anInt(9));
        due("9 and nothing", valueOf(m, m.express(7, N9, NOTHING)), 0);
        due("1 and a failing one", valueOf(m, m.express(7, N1, FAILS)), FAILED);
        due("a failing one and 1", valueOf(m, m.express(7, FAILS, N1)), FAILED);
        due("0 or a failing one", valueOf(m, m.express(8, N0, FAILS)), anInt(0));
        due("nothing or 9", valueOf(m, m.express(8, NOTHING, N9)), anInt(9));
        due("nothing or nothing", valueOf(m, m.express(8, NOTHING, NOTHING)), 0);
        due("nothing or a failing one", valueOf(m, m.express(8, NOTHING, FAILS)), FAILED);
        due("a failing one or 1", valueOf(m, m.express(8, FAILS, N1)), FAILED);
        due("a table or 1", valueOf(m, m.express(8, NEW, N1)), aTable(0));
        due("not of 0", valueOf(m, m.express(9, N0, 0)), 0);
        due("not of a table", valueOf(m, m.express(9, NEW, 0)), 0);
        due("not of nothing", valueOf(m, m.express(9, NOTHING, 0)), anInt(1));

        m = prepared();
        due("two new tables", valueOf(m, m.express(6, NEW, NEW)), 0);
        due("nothing and nothing", valueOf(m, m.express(6, NOTHING, V0)), anInt(1));
        due("nothing and 0", valueOf(m, m.express(6, NOTHING, N0)), 0);
        due("0 and a table", valueOf(m, m.express(6, N0, NEW)), 0);
        int skipped = m.express(7, NOTHING, FAILS);
        due("a choice as second part", valueOf(m, m.express(6, V0, skipped)), anInt(1));
        int nested = m.express(8, m.express(7, V0, N1), N9);
        due("a choice in a choice", valueOf(m, nested), anInt(9));
        due("more after a choice", valueOf(m, m.express(3, N2, nested)), anInt(-7));
    }

    private static void expressOrder() {
        promise = 2;
        TableMachine m = new TableMachine();
        m.express(0, 10, 0);
        m.express(0, 7, 0);
        m.express(0, 3, 0);
        m.express(0, 2, 0);
        int inner = m.express(3, 2, 3);
        int middle = m.express(3, 1, inner);
        due("10 - (7 - (3 - 2))", valueOf(m, m.express(3, 0, middle)), anInt(4));
        inner = m.express(3, 0, 1);
        middle = m.express(3, inner, 2);
        due("((10 - 7) - 3) - 2", valueOf(m, m.express(3, middle, 3)), anInt(-2));
        due("(10 - 7) - (3 - 2)", valueOf(m, m.express(3, inner, 4)), anInt(2));
    }

    // ---- promise 3 ----

    private static void stateAnswers() {
        promise = 3;
        TableMachine m = prepared();
        int[] badOps = {-1, 5, MIN, MAX};
        int[] badVariables = {-1, 6, MIN, MAX};
        int[] badExpressions = {-1, PREPARED, MIN, MAX};
        for (int op : badOps) {
            due("op " + op, m.state(op, 0, 0, 1), BAD);
        }
        for (int v : badVariables) {
            due("LET of variable " + v, m.state(LET, v, 0, 0), BAD);
            due("LOOP of variable " + v, m.state(LOOP, v, 0, 1), BAD);
        }
        for (int e : badExpressions) {
            due("LET to " + e, m.state(LET, 0, e, 0), BAD);
            due("PUT in " + e, m.state(PUT, e, 0, 0), BAD);
            due("PUT for " + e, m.state(PUT, 0, e, 0), BAD);
            due("PUT of " + e, m.state(PUT, 0, 0, e), BAD);
            due("IF " + e, m.state(IF, e, 1, 0), BAD);
            due("LOOP to " + e, m.state(LOOP, 0, e, 1), BAD);
            due("SHOW " + e, m.state(SHOW, e, 0, 0), BAD);
        }
        due("no bad one was added", m.retract(), BAD);
        due("LET, z free", m.state(LET, 5, PREPARED - 1, MIN), 1);
        due("PUT", m.state(PUT, PREPARED - 1, PREPARED - 1, PREPARED - 1), 2);
        due("IF, z free", m.state(IF, PREPARED - 1, 6, MAX), 3);
        due("LOOP", m.state(LOOP, 5, PREPARED - 1, 6), 4);
        due("SHOW, y and z free", m.state(SHOW, PREPARED - 1, -1, 99), 5);
        for (int count = 6; count <= 14; count++) {
            due("statement " + count, m.state(SHOW, 0, 0, 0), count);
        }
        due("statement 15", m.state(SHOW, 0, 0, 0), FULL);
        due("full comes before bad", m.state(9, -1, -1, -1), FULL);
        due("one less", m.retract(), 13);
        due("one again", m.state(SHOW, 0, 0, 0), 14);
    }

    // ---- promise 4 ----

    private static void retractAnswers() {
        promise = 4;
        TableMachine m = prepared();
        due("none to take", m.retract(), BAD);
        add(m, SHOW, N1, 0, 0);
        add(m, SHOW, N2, 0, 0);
        add(m, SHOW, FAILS, 0, 0);
        due("run with the failing one", m.run(), 2);
        due("two are left", m.retract(), 2);
        due("what the run left stays", m.shown(), 2);
        due("run without it", m.run(), NONE);
        due("the last of two", m.output(1), anInt(2));
        due("one is left", m.retract(), 1);
        due("none is left", m.retract(), 0);
        due("none to take again", m.retract(), BAD);
        due("expressions stay", m.express(9, PREPARED - 1, 0), PREPARED);
    }

    // ---- promise 5 ----

    private static void soundAnswers() {
        promise = 5;
        TableMachine m = prepared();
        int[] namers = {IF, LOOP};
        for (int op : namers) {
            for (int n = 1; n <= 6; n++) {
                clear(m);
                addNamer(m, op, n);
                for (int count = 0; count < n; count++) {
                    due(n + " named, " + count + " there", m.sound(), false);
                    add(m, SHOW, 0, 0, 0);
                }
                due(n + " named, all there", m.sound(), true);
            }
        }
    }

    private static void addNamer(TableMachine m, int op, int n) {
        if (op == IF) {
            add(m, IF, N1, n, 0);
        } else {
            add(m, LOOP, 0, N2, n);
        }
    }

    private static void soundCrossing() {
        promise = 5;
        TableMachine m = prepared();
        int[] namers = {IF, LOOP};
        for (int outer : namers) {
            for (int inner : namers) {
                clear(m);
                addNamer(m, outer, 2);
                addNamer(m, inner, 2);
                add(m, SHOW, 0, 0, 0);
                add(m, SHOW, 0, 0, 0);
                due("the inner one goes too far", m.sound(), false);
                clear(m);
                addNamer(m, outer, 3);
                addNamer(m, inner, 2);
                add(m, SHOW, 0, 0, 0);
                add(m, SHOW, 0, 0, 0);
                due("both end together", m.sound(), true);
                clear(m);
                addNamer(m, outer, 1);
                addNamer(m, inner, 1);
                add(m, SHOW, 0, 0, 0);
                due("the last named one names another", m.sound(), false);
                clear(m);
                addNamer(m, outer, 1);
                add(m, SHOW, 0, 0, 0);
                addNamer(m, inner, 1);
                add(m, SHOW, 0, 0, 0);
                due("one after the other", m.sound(), true);
            }
        }
    }

    private static void soundLoops() {
        promise = 5;
        TableMachine m = prepared();
        addNamer(m, LOOP, 3);
        addNamer(m, LOOP, 2);
        addNamer(m, LOOP, 1);
        add(m, SHOW, 0, 0, 0);
        due("three LOOPs", m.sound(), false);
        clear(m);
        addNamer(m, LOOP, 5);
        addNamer(m, IF, 4);
        addNamer(m, LOOP, 3);
        addNamer(m, IF, 2);
        addNamer(m, IF, 1);
        add(m, SHOW, 0, 0, 0);
        due("two LOOPs and three IFs", m.sound(), true);
        clear(m);
        addNamer(m, LOOP, 5);
        addNamer(m, IF, 4);
        addNamer(m, LOOP, 3);
        addNamer(m, IF, 2);
        addNamer(m, LOOP, 1);
        add(m, SHOW, 0, 0, 0);
        due("three LOOPs with IFs between", m.sound(), false);
        clear(m);
        addNamer(m, LOOP, 4);
        addNamer(m, LOOP, 1);
        add(m, SHOW, 0, 0, 0);
        addNamer(m, LOOP, 1);
        add(m, SHOW, 0, 0, 0);
        due("two LOOPs in one, no statement in three", m.sound(), true);
    }

    // ---- promise 6 ----

    private static void runUnsound() {
        promise = 6;
        TableMachine m = prepared();
        add(m, LET, 0, NEW, 0);
        add(m, PUT, V0, N1, NEW);
        add(m, SHOW, V0, 0, 0);
        due("a sound run", m.run(), NONE);
        add(m, IF, N1, 1, 0);
        due("an unsound run", m.run(), UNSOUND);
        due("variable 0 stays", m.sort(0), 2);
        due("its entry stays", m.entrySort(0, 1), 2);
        due("the output stays", m.shown(), 1);
        due("the value shown stays", m.output(0), aTable(1));
        due("the tables stay", m.tables(), 2);
        clear(m);
        due("an empty run", m.run(), NONE);
        due("variable 0 has nothing", m.sort(0), 0);
        due("the output is empty", m.shown(), 0);
        due("output(0) is gone", m.output(0), -1);
        due("no tables", m.tables(), 0);
    }

    private static void runFailing() {
        promise = 6;
        int[][] failing = {{LET, 1, FAILS, 0}, {PUT, FAILS, N1, N1}, {PUT, V0, FAILS, N1}, {PUT, V0, N2, FAILS},
            {IF, FAILS, 1, 0}, {LOOP, 1, FAILS, 1}, {LOOP, 1, NEW, 1}, {LOOP, 1, NOTHING, 1}, {SHOW, FAILS, 0, 0},
            {PUT, N1, N1, N1}, {PUT, V5, N1, N1}, {PUT, V0, V5, N1}, {PUT, V0, NEW, N1},
            {PUT, V5, N1, NOTHING}, {PUT, V0, NOTHING, NOTHING}};
        for (int[] it : failing) {
            TableMachine m = prepared();
            add(m, LET, 0, NEW, 0);
            add(m, LET, 1, N9, 0);
            add(m, PUT, V0, N1, N9);
            add(m, it[0], it[1], it[2], it[3]);
            add(m, SHOW, N1, 0, 0);
            String what = "after " + Arrays.toString(it);
            due(what + " run", m.run(), 3);
            due(what + " number(0)", m.number(0), 1);
            due(what + " entryNumber", m.entryNumber(0, 1), 9);
            due(what + " number(1)", m.number(1), 9);
            due(what + " shown", m.shown(), 0);
        }
    }

    private static void runIf() {
        promise = 6;
        TableMachine m = prepared();
        int[] takers = {N0, N1, NEW};
        for (int e : takers) {
            clear(m);
            add(m, IF, e, 2, 0);
            add(m, SHOW, N1, 0, 0);
            add(m, SHOW, N2, 0, 0);
            add(m, SHOW, N9, 0, 0);
            due("IF of something", m.run(), NONE);
            due("all are shown", m.shown(), 3);
        }
        clear(m);
        add(m, IF, NOTHING, 2, 0);
        add(m, SHOW, FAILS, 0, 0);
        add(m, SHOW, N2, 0, 0);
        add(m, SHOW, N9, 0, 0);
        due("IF of nothing", m.run(), NONE);
        due("two are left out", m.shown(), 1);
        due("the third is not", m.output(0), anInt(9));
        clear(m);
        add(m, LOOP, 0, N2, 2);
        add(m, IF, NOTHING, 1, 0);
        add(m, SHOW, FAILS, 0, 0);
        add(m, SHOW, V0, 0, 0);
        due("IF at the end of a LOOP", m.run(), NONE);
        due("it is left out each time", m.output(0), anInt(2));
        due("once shown", m.shown(), 1);
    }

    private static void runLoop() {
        promise = 6;
        int[][] limits = {{MIN, 0}, {-1, 0}, {0, 0}, {1, 1}, {2, 2}, {4, 4}, {5, 5}, {6, 5}, {MAX, 5}};
        for (int[] limit : limits) {
            TableMachine m = prepared();
            int e = m.express(0, limit[0], 0);
            add(m, LET, 1, N9, 0);
            add(m, LOOP, 1, e, 2);
            add(m, SHOW, V1, 0, 0);
            add(m, LET, 1, NEW, 0);
            add(m, LET, 2, V1, 0);
            due("LOOP to " + limit[0], m.run(), NONE);
            due("turns to " + limit[0], m.shown(), limit[1]);
            for (int turn = 1; turn <= limit[1]; turn++) {
                due("v of turn " + turn, m.output(turn - 1), anInt(turn));
            }
            due("v after the LOOP", m.sort(1), limit[1] == 0 ? 1 : 2);
            due("v of a LOOP left out", m.number(1), limit[1] == 0 ? 9 : 0);
            due("the statement after the LOOP is executed", m.same(1, 2), true);
        }
    }

    private static void runLoops() {
        promise = 6;
        TableMachine m = prepared();
        int ten = m.express(0, 10, 0);
        int sum = m.express(2, m.express(4, V0, ten), V1);
        add(m, LET, 2, N2, 0);
        add(m, LOOP, 0, V2, 3);
        add(m, LET, 2, N9, 0);
        add(m, LOOP, 1, V0, 1);
        add(m, SHOW, sum, 0, 0);
        add(m, SHOW, V1, 0, 0);
        due("a LOOP in a LOOP that ends with it", m.run(), NONE);
        long[] shown = {11, 21, 22, 2};
        due("the limit is worked out once", m.shown(), shown.length);
        for (int k = 0; k < shown.length; k++) {
            due("value " + k, m.output(k), anInt((int) shown[k]));
        }
        due("v keeps the last number", m.number(0), 2);

        clear(m);
        add(m, LOOP, 0, N2, 2);
        add(m, LOOP, 0, N2, 1);
        add(m, SHOW, V0, 0, 0);
        due("both LOOPs over one variable", m.run(), NONE);
        due("four turns", m.shown(), 4);

        clear(m);
        add(m, LOOP, 0, N9, 1);
        add(m, SHOW, m.express(2, V0, V2), 0, 0);
        due("a failure in a LOOP", m.run(), 1);
        due("v of the first turn", m.number(0), 1);
        clear(m);
        add(m, SHOW, N1, 0, 0);
        add(m, SHOW, N1, 0, 0);
        due("the LOOP that was left is forgotten", m.run(), NONE);
        due("two are shown", m.shown(), 2);
    }

    private static void runPut() {
        promise = 6;
        TableMachine m = prepared();
        add(m, LET, 0, NEW, 0);
        add(m, LOOP, 1, N9, 1);
        add(m, PUT, V0, V1, N9);
        add(m, PUT, V0, N9, N1);
        due("6 entries", m.run(), NONE);
        due("there are 6", m.number(0), 6);
        add(m, PUT, V0, N0, NOTHING);
        add(m, PUT, V0, N1, N0);
        due("another value for a key of 6", m.run(), NONE);
        due("there are still 6", m.number(0), 6);
        due("the value for the key", m.entryNumber(0, 1), 0);
        due("0 is an entry", m.entrySort(0, 1), 1);
        add(m, PUT, V0, N0, N1);
        due("a seventh", m.run(), 6);
        due("6 stay", m.number(0), 6);
        due("none for the seventh", m.entrySort(0, 0), 0);
        due("without the seventh", m.retract(), 6);
        add(m, PUT, V0, N2, NOTHING);
        add(m, PUT, V0, N0, V0);
        due("one less, one more", m.run(), NONE);
        due("6 again", m.number(0), 6);
        due("none for the key taken away", m.entrySort(0, 2), 0);
        int[] keys = {0, 1, 3, 4, 5, 9};
        for (int key : keys) {
            due("the entry for " + key, m.entrySort(0, key), key == 0 ? 2 : 1);
            due("the entry for " + key, m.entryNumber(0, key), key == 0 ? 6 : key == 1 ? 0 : key == 9 ? 1 : 9);
        }
        due("one table", m.tables(), 1);
    }

    // Variable 0 gets a table, and tables are added behind it until there are so many.
    private static TableMachine withTables(int count) {
        TableMachine m = prepared();
        add(m, LET, 0, NEW, 0);
        add(m, LET, 2, V0, 0);
        add(m, LOOP, 1, N9, 1);
        add(m, PUT, V0, V1, NEW);
        for (int there = 6; there < count; there++) {
            add(m, PUT, V0, N0, NEW);
            add(m, LET, 0, m.express(10, V0, N0), 0);
        }
        return m;
    }

    private static void runTables() {
        promise = 6;
        TableMachine m = withTables(8);
        add(m, SHOW, N1, 0, 0);
        due("8 tables", m.run(), NONE);
        due("there are 8", m.tables(), 8);
        add(m, PUT, V0, N0, NEW);
        due("a ninth at the end", m.run(), NONE);
        due("there are 9", m.tables(), 9);
        due("it is there", m.entrySort(0, 0), 2);
        int[][] next = {{SHOW, N1, 0, 0}, {LET, 2, N1, 0}, {PUT, V0, N0, NOTHING}, {IF, NOTHING, 1, 0},
            {LOOP, 1, N0, 1}};
        for (int[] it : next) {
            add(m, it[0], it[1], it[2], it[3]);
            add(m, SHOW, N9, 0, 0);
            due("come to with 9 tables: " + Arrays.toString(it), m.run(), 10);
            due("nothing of it is done", m.shown(), 1);
            due("9 stay", m.tables(), 9);
            m.retract();
            m.retract();
        }
        add(m, SHOW, FAILS, 0, 0);
        due("a failing one with 9 tables", m.run(), 10);
    }

    private static void runCollects() {
        promise = 6;
        TableMachine m = prepared();
        int[] makers = {m.express(7, m.express(7, m.express(7, NEW, NEW), NEW), NEW),
            m.express(7, m.express(7, NEW, NEW), m.express(12, NEW, 0))};
        add(m, LET, 0, NEW, 0);
        add(m, LET, 2, V0, 0);
        add(m, LOOP, 1, N9, 1);
        add(m, PUT, V2, V1, NEW);
        add(m, PUT, V0, N0, NEW);
        add(m, LET, 0, m.express(10, V0, N0), 0);
        add(m, LOOP, 1, N9, 5);
        add(m, LOOP, 5, N9, 4);
        add(m, PUT, makers[0], makers[1], makers[0]);
        add(m, PUT, V0, makers[1], makers[0]);
        add(m, SHOW, m.express(6, m.express(10, V0, N0), V2), 0, 0);
        add(m, PUT, V0, N0, NOTHING);
        due("tables that are gone give room", m.run(), NONE);
        due("25 turns", m.shown(), 25);
        due("no new table is an old one", m.output(24), 0);
        due("7 are left", m.tables(), 7);
        due("the first one has its entries", m.number(2), 6);
        due("the other one has none", m.number(0), 0);
    }

    // 8 tables that stay, and 12 that one statement makes.
    private static void runCrowded() {
        promise = 6;
        TableMachine m = withTables(8);
        int table = m.express(7, m.express(7, m.express(7, NEW, NEW), NEW), NEW);
        int unlike = m.express(6, NEW, NEW);
        int key = m.express(6, unlike, unlike);
        add(m, LOOP, 1, N9, 2);
        add(m, LOOP, 5, N9, 1);
        add(m, PUT, table, key, table);
        due("many tables that are not kept", m.run(), NONE);
        due("8 stay", m.tables(), 8);
        due("the first one has its entries", m.number(2), 6);
        due("the last one has none", m.number(0), 0);
    }

    private static void runLoopFrees() {
        promise = 6;
        TableMachine m = withTables(8);
        add(m, LOOP, 5, N2, 2);
        add(m, SHOW, V5, 0, 0);
        add(m, LET, 5, NEW, 0);
        due("v gets its number before the next statement is come to", m.run(), NONE);
        due("two turns", m.shown(), 2);
        due("9 at the end", m.tables(), 9);
    }

    // ---- promises 7 to 11 ----

    private static TableMachine filled() {
        TableMachine m = prepared();
        int inner = m.express(10, V0, N2);
        add(m, LET, 0, NEW, 0);
        add(m, PUT, V0, N1, m.express(0, -5, 0));
        add(m, PUT, V0, N2, NEW);
        add(m, PUT, inner, N0, N9);
        add(m, PUT, inner, m.express(0, MIN, 0), N0);
        add(m, PUT, inner, m.express(0, MAX, 0), V0);
        add(m, LET, 1, m.express(0, MIN, 0), 0);
        add(m, LET, 2, inner, 0);
        add(m, LET, 3, NEW, 0);
        add(m, LET, 4, m.express(10, inner, m.express(0, MAX, 0)), 0);
        due("filling", m.run(), NONE);
        return m;
    }

    private static void looks() {
        TableMachine m = filled();
        int[] outside = {-1, 6, MIN, MAX};
        int[] sorts = {2, 1, 2, 2, 2, 0};
        int[] numbers = {2, MIN, 3, 0, 2, 0};
        for (int v = 0; v < 6; v++) {
            promise = 7;
            due("sort(" + v + ")", m.sort(v), sorts[v]);
            promise = 8;
            due("number(" + v + ")", m.number(v), numbers[v]);
        }
        for (int v : outside) {
            promise = 7;
            due("sort(" + v + ")", m.sort(v), BAD);
            promise = 8;
            due("number(" + v + ")", m.number(v), 0);
            promise = 9;
            due("entrySort(" + v + ", 1)", m.entrySort(v, 1), BAD);
            promise = 10;
            due("entryNumber(" + v + ", 1)", m.entryNumber(v, 1), 0);
        }
        int[][] looks = {{0, 1, 1, -5}, {0, 2, 2, 3}, {0, 0, 0, 0}, {0, 3, 0, 0}, {0, MIN, 0, 0}, {1, 1, NONE, 0},
            {1, MIN, NONE, 0}, {2, 0, 1, 9}, {2, MIN, 1, 0}, {2, MAX, 2, 2}, {2, 1, 0, 0}, {3, 1, 0, 0},
            {4, 1, 1, -5}, {4, 2, 2, 3}, {5, 1, NONE, 0}};
        for (int[] it : looks) {
            promise = 9;
            due("entrySort(" + it[0] + ", " + it[1] + ")", m.entrySort(it[0], it[1]), it[2]);
            promise = 10;
            due("entryNumber(" + it[0] + ", " + it[1] + ")", m.entryNumber(it[0], it[1]), it[3]);
        }
    }

    private static void sames() {
        promise = 11;
        TableMachine m = filled();
        for (int v = 0; v < 6; v++) {
            for (int w = 0; w < 6; w++) {
                boolean want = v == w || v == 0 && w == 4 || v == 4 && w == 0;
                due("same(" + v + ", " + w + ")", m.same(v, w), want);
            }
        }
        int[] outside = {-1, 6, MIN, MAX};
        for (int v : outside) {
            due("same(" + v + ", itself)", m.same(v, v), false);
            due("same(5, " + v + ")", m.same(5, v), false);
            due("same(" + v + ", 5)", m.same(v, 5), false);
        }
        m = prepared();
        add(m, LET, 0, N0, 0);
        add(m, LET, 1, m.express(3, N9, N9), 0);
        add(m, LET, 2, NEW, 0);
        add(m, LET, 3, NEW, 0);
        due("run", m.run(), NONE);
        due("equal ints", m.same(0, 1), true);
        due("0 and nothing", m.same(0, 4), false);
        due("0 and a table without entries", m.same(0, 2), false);
        due("two tables without entries", m.same(2, 3), false);
        due("nothing and a table", m.same(5, 2), false);
        due("nothing and nothing", m.same(4, 5), true);
    }

    // ---- promises 12 and 13 ----

    private static void outputs() {
        TableMachine m = prepared();
        add(m, SHOW, m.express(0, MAX, 0), 0, 0);
        add(m, SHOW, m.express(0, MIN, 0), 0, 0);
        add(m, SHOW, m.express(0, -1, 0), 0, 0);
        add(m, SHOW, NOTHING, 0, 0);
        add(m, LET, 0, NEW, 0);
        add(m, SHOW, V0, 0, 0);
        add(m, PUT, V0, N1, N1);
        add(m, SHOW, V0, 0, 0);
        add(m, PUT, V0, N2, N1);
        due("run", m.run(), NONE);
        promise = 12;
        due("shown", m.shown(), 6);
        promise = 13;
        long[] want = {8589934589L, -8589934591L, -3L, 0L, 2L, 6L, -1L};
        for (int k = 0; k < want.length; k++) {
            due("output(" + k + ")", m.output(k), want[k]);
        }
        int[] none = {-1, MIN, MAX, 29, 30, 6};
        for (int k : none) {
            due("output(" + k + ")", m.output(k), -1L);
        }
    }

    private static void manyOutputs() {
        TableMachine m = prepared();
        for (int half = 0; half < 2; half++) {
            add(m, LOOP, 0, N9, 6);
            add(m, LOOP, 1, N9, 5);
            for (int i = 0; i < 5; i++) {
                add(m, SHOW, i % 2 == 0 ? V0 : V1, 0, 0);
            }
        }
        due("run", m.run(), NONE);
        promise = 12;
        due("all are counted", m.shown(), 250);
        promise = 13;
        for (int k = 0; k < 30; k++) {
            int inner = k / 5 % 5 + 1;
            int outer = k / 25 + 1;
            due("output(" + k + ")", m.output(k), anInt(k % 5 % 2 == 0 ? outer : inner));
        }
        due("output(30)", m.output(30), -1L);
        due("output(249)", m.output(249), -1L);
        due("output(250)", m.output(250), -1L);
        promise = 12;
        clear(m);
        add(m, SHOW, N1, 0, 0);
        add(m, SHOW, FAILS, 0, 0);
        due("a failing run", m.run(), 1);
        due("shown before it failed", m.shown(), 1);
        promise = 13;
        due("output of an earlier run", m.output(1), -1L);
    }

    // ---- promise 14 ----

    private static void tableCounts() {
        promise = 14;
        TableMachine m = prepared();
        add(m, LET, 0, NEW, 0);
        add(m, LET, 1, V0, 0);
        due("run", m.run(), NONE);
        due("one table in two variables", m.tables(), 1);
        add(m, PUT, V0, N1, V0);
        due("run", m.run(), NONE);
        due("a table in itself", m.tables(), 1);
        add(m, PUT, V0, N2, NEW);
        add(m, PUT, m.express(10, V0, N2), N1, V0);
        add(m, PUT, m.express(10, V0, N2), N2, NEW);
        due("run", m.run(), NONE);
        due("three in a ring and a chain", m.tables(), 3);
        due("asking changes nothing", m.tables(), 3);
        due("asking keeps entries", m.entryNumber(0, 2), 2);
        add(m, PUT, V0, N2, NOTHING);
        due("run", m.run(), NONE);
        due("two can't be come to any more", m.tables(), 1);
        add(m, LET, 0, N1, 0);
        due("run", m.run(), NONE);
        due("one variable still has it", m.tables(), 1);
        add(m, LET, 1, NOTHING, 0);
        due("run", m.run(), NONE);
        due("none can be come to", m.tables(), 0);
        clear(m);
        for (int v = 0; v < 6; v++) {
            add(m, LET, v, NEW, 0);
        }
        due("run", m.run(), NONE);
        due("one in each variable", m.tables(), 6);
    }

    // ---- promise 15 ----

    private static void orderAndLimits() {
        promise = 15;
        TableMachine m = prepared();
        int[] outside = {0, 7, -1, MIN, MAX};
        for (int n : outside) {
            due("IF of " + n, m.state(IF, N1, n, 1), BAD);
            due("LOOP of " + n, m.state(LOOP, 0, N1, n), BAD);
        }
        int count = 0;
        for (int n = 1; n <= 6; n++) {
            count += 2;
            due("IF of " + n, m.state(IF, N1, n, 0), count - 1);
            due("LOOP of " + n, m.state(LOOP, 0, N1, n), count);
        }
    }

    public static void main(String[] args) {
        face();
        newObject();
        expressAnswers();
        expressWeight();
        expressValues();
        expressFailures();
        expressChoices();
        expressOrder();
        stateAnswers();
        retractAnswers();
        soundAnswers();
        soundCrossing();
        soundLoops();
        runUnsound();
        runFailing();
        runIf();
        runLoop();
        runLoops();
        runPut();
        runTables();
        runCollects();
        runCrowded();
        runLoopFrees();
        looks();
        sames();
        outputs();
        manyOutputs();
        tableCounts();
        orderAndLimits();
        System.out.println(wrong == 0 ? "all promises hold" : wrong + " answers are not as due");
        if (wrong != 0) {
            System.exit(1);
        }
    }
}
