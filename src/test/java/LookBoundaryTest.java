/*
 * A new object, what a run left (promises 1 and 7 to 14), and the 512 calls: for each sentence that
 * names a boundary, the boundary and one step on each side of it.
 */
public final class LookBoundaryTest extends Sentences {
    private static final int[] OUTSIDE = {-1, 6, -2, 7, MIN, MAX};

    // ---- promise 1 ----

    private static void newObject() {
        sentence("Promise 1: all variables have nothing");
        Machine m = new Machine();
        for (int v = 0; v < 6; v++) {
            due("sort(" + v + ")", m.sort(v), 0);
            due("number(" + v + ")", m.number(v), 0);
            due("entrySort(" + v + ", 0)", m.entrySort(v, 0), NONE);
            due("entryNumber(" + v + ", 0)", m.entryNumber(v, 0), 0);
            due("tables()", m.tables(), 0);
            for (int w = 0; w < 6; w++) {
                due("same(" + v + ", " + w + ")", m.same(v, w), true);
            }
        }
        sentence("Promise 1: the output is empty");
        due("shown()", m.shown(), 0);
        int[] places = {-1, 0, 1, 29, 30};
        for (int k : places) {
            due("output(" + k + ")", m.output(k), -1L);
        }
        sentence("Promise 1: no statements");
        due("sound()", m.sound(), true);
        due("run()", m.run(), NONE);
        due("retract()", m.retract(), BAD);
        sentence("Promise 1: No expressions");
        due("no expression 0 for SHOW", m.state(SHOW, 0, 0, 0), BAD);
        due("no expression 0 as a part", m.express(9, 0, 0), BAD);
        due("the first is 0", m.express(11, 0, 0), 0);
        due("the first statement", m.state(SHOW, 0, 0, 0), 1);
    }

    private static void objectsAreApart() {
        sentence("Promise 1: a new object shares nothing with another one");
        Machine first = new Machine();
        first.let(0, first.fresh());
        first.put(first.var(0), first.num(1), first.num(5));
        first.show(first.num(7));
        first.ends("the first object");
        Machine second = new Machine();
        due("no expressions", second.express(9, 0, 0), BAD);
        due("no statements", second.retract(), BAD);
        due("no values", second.sort(0), 0);
        due("no output", second.shown(), 0);
        second.let(0, second.fresh());
        second.put(second.var(0), second.num(1), second.num(6));
        second.ends("the second object");
        due("the first one keeps its entry", first.entryNumber(0, 1), 5);
        due("the second one has its own", second.entryNumber(0, 1), 6);
        due("the first one keeps its output", first.shown(), 1);
    }

    // ---- promises 7 to 10 ----

    // Variable 0: nothing; 1: an int; 2: a table without entries; 3: a table with an int, a table
    // and itself; 4: that table's entry for 2; 5: the greatest int.
    private static Machine withValues() {
        Machine m = new Machine();
        makeValues(m);
        return m;
    }

    private static void makeValues(Machine m) {
        int v3 = m.var(3);
        int two = m.num(2);
        int inner = m.entry(v3, two);
        m.let(1, m.num(MIN));
        m.let(2, m.fresh());
        m.let(3, m.fresh());
        m.put(v3, m.num(1), m.num(-9));
        m.put(v3, two, m.fresh());
        m.put(v3, m.num(MAX), v3);
        m.put(inner, m.num(MIN), m.num(0));
        m.put(inner, m.num(0), m.var(2));
        m.let(4, inner);
        m.let(5, m.num(MAX));
        m.ends("the values");
    }

    private static void sorts() {
        sentence("Promise 7: 0 nothing, 1 an int, 2 a table");
        Machine m = withValues();
        int[] want = {0, 1, 2, 2, 2, 1};
        for (int v = 0; v < 6; v++) {
            due("sort(" + v + ")", m.sort(v), want[v]);
        }
        sentence("Promise 7: BAD for v outside 0..5");
        for (int v : OUTSIDE) {
            due("sort(" + v + ")", m.sort(v), BAD);
        }
    }

    private static void numbers() {
        sentence("Promise 8: The int that a variable has, or how many entries its table has; 0 for nothing");
        Machine m = withValues();
        int[] want = {0, MIN, 0, 3, 2, MAX};
        for (int v = 0; v < 6; v++) {
            due("number(" + v + ")", m.number(v), want[v]);
        }
        int[] ints = {-1, 0, 1, MIN + 1, MAX - 1};
        for (int number : ints) {
            Machine n = new Machine();
            n.let(0, n.num(number));
            n.ends("an int");
            due("number of " + number, n.number(0), number);
        }
        for (int count = 0; count <= 6; count++) {
            Machine n = withEntries(count);
            due("number of a table with " + count, n.number(0), count);
        }
        sentence("Promise 8: 0 for v outside 0..5");
        for (int v : OUTSIDE) {
            due("number(" + v + ")", m.number(v), 0);
        }
    }

    // Variable 0 gets a table with so many entries, variable 1 one whose entry for 1 it is.
    private static Machine withEntries(int count) {
        Machine m = new Machine();
        int table = m.var(0);
        int one = m.num(1);
        m.let(0, m.fresh());
        for (int key = 0; key < count; key++) {
            m.put(table, m.num(key), one);
        }
        m.let(1, m.fresh());
        m.put(m.var(1), one, table);
        m.ends("a table with " + count);
        return m;
    }

    private static void entrySorts() {
        sentence("Promise 9: The sort of the entry for a key in the table that a variable has (0: there is none)");
        Machine m = withValues();
        int[][] want = {{2, 0, 0}, {2, 1, 0}, {3, 0, 0}, {3, 1, 1}, {3, 2, 2}, {3, 3, 0}, {3, MAX - 1, 0}, {3, MAX, 2},
            {3, MIN, 0}, {4, MIN, 1}, {4, MIN + 1, 0}, {4, -1, 0}, {4, 0, 2}, {4, 1, 0}, {4, MAX, 0}};
        for (int[] it : want) {
            due("entrySort(" + it[0] + ", " + it[1] + ")", m.entrySort(it[0], it[1]), it[2]);
        }
        int[] keys = {MIN, -1, 0, 1, MAX};
        sentence("Promise 9: NONE if it has no table");
        for (int key : keys) {
            due("nothing", m.entrySort(0, key), NONE);
            due("the least int", m.entrySort(1, key), NONE);
            due("the greatest int", m.entrySort(5, key), NONE);
        }
        sentence("Promise 9: BAD for v outside 0..5");
        for (int v : OUTSIDE) {
            for (int key : keys) {
                due("entrySort(" + v + ", " + key + ")", m.entrySort(v, key), BAD);
            }
        }
    }

    private static void entryNumbers() {
        sentence("Promise 10: The int that is the entry, or how many entries the table that is the entry has");
        Machine m = withValues();
        int[][] want = {{3, 1, -9}, {3, 2, 2}, {3, MAX, 3}, {4, MIN, 0}, {4, 0, 0}};
        for (int[] it : want) {
            due("entryNumber(" + it[0] + ", " + it[1] + ")", m.entryNumber(it[0], it[1]), it[2]);
        }
        int[] ints = {MIN, -1, 0, 1, MAX};
        for (int number : ints) {
            Machine n = new Machine();
            n.let(0, n.fresh());
            n.put(n.var(0), n.num(4), n.num(number));
            n.ends("an int as entry");
            due("entryNumber of " + number, n.entryNumber(0, 4), number);
        }
        for (int count = 0; count <= 6; count++) {
            Machine n = withEntries(count);
            due("entryNumber of a table with " + count, n.entryNumber(1, 1), count);
        }
        sentence("Promise 10: 0 in all other cases");
        int[][] none = {{0, 0}, {0, 1}, {1, 0}, {1, 1}, {1, MIN}, {2, 0}, {2, 1}, {3, 0}, {3, 3}, {3, MAX - 1},
            {3, MIN}, {4, 1}, {4, -1}, {4, MIN + 1}, {5, 1}, {5, MAX}};
        for (int[] it : none) {
            due("entryNumber(" + it[0] + ", " + it[1] + ")", m.entryNumber(it[0], it[1]), 0);
        }
        for (int v : OUTSIDE) {
            for (int key : ints) {
                due("entryNumber(" + v + ", " + key + ")", m.entryNumber(v, key), 0);
            }
        }
    }

    // ---- promise 11 ----

    private static void sames() {
        sentence("Promise 11: Whether two variables have the same value");
        Machine m = new Machine();
        int v3 = m.var(3);
        m.let(0, m.num(1));
        m.let(1, m.made(3, m.num(4), m.num(3)));
        m.let(2, m.num(2));
        m.let(3, m.fresh());
        m.let(4, m.fresh());
        m.let(5, v3);
        m.ends("six values");
        for (int v = 0; v < 6; v++) {
            for (int w = 0; w < 6; w++) {
                boolean want = v == w || v + w == 1 || v == 3 && w == 5 || v == 5 && w == 3;
                due("same(" + v + ", " + w + ")", m.same(v, w), want);
            }
        }
        m.clear();
        m.let(1, m.num(0));
        m.let(2, m.fresh());
        m.let(3, m.num(-1));
        m.put(m.var(2), m.num(1), m.var(2));
        m.let(4, m.entry(m.var(2), m.num(1)));
        m.ends("nothing, 0, a table, -1, the table, nothing");
        for (int v = 0; v < 6; v++) {
            for (int w = 0; w < 6; w++) {
                boolean want = v == w || v % 5 == 0 && w % 5 == 0 || v == 2 && w == 4 || v == 4 && w == 2;
                due("same(" + v + ", " + w + ")", m.same(v, w), want);
            }
        }
    }

    private static void samesOutside() {
        sentence("Promise 11: false for a number outside 0..5");
        Machine m = new Machine();
        for (int v : OUTSIDE) {
            for (int w = 0; w < 6; w += 5) {
                due("same(" + v + ", " + w + ")", m.same(v, w), false);
                due("same(" + w + ", " + v + ")", m.same(w, v), false);
            }
            for (int w : OUTSIDE) {
                due("same(" + v + ", " + w + ")", m.same(v, w), false);
            }
        }
        due("same(5, 5)", m.same(5, 5), true);
        due("same(0, 0)", m.same(0, 0), true);
    }

    // ---- promises 12 and 13 ----

    // So many values, from 100 on: at most 25 in a LOOP of LOOPs, the rest in two LOOPs of their own.
    private static Machine withOutput(int count) {
        Machine m = new Machine();
        int v0 = m.var(0);
        int next = m.made(2, m.made(8, v0, m.num(99)), m.num(1));
        int rows = Math.min(5, count / 5);
        int left = count - 5 * rows;
        m.loop(1, m.num(rows), 3);
        int[] limits = {5, Math.min(5, left), Math.max(0, left - 5)};
        for (int limit : limits) {
            m.loop(2, m.num(limit), 2);
            m.let(0, next);
            m.show(v0);
        }
        m.ends(count + " values");
        return m;
    }

    private static void outputOfManySizes() {
        int[] counts = {0, 1, 2, 28, 29, 30, 31, 32};
        for (int count : counts) {
            Machine m = withOutput(count);
            sentence("Promise 12: The number of values in the output: " + count);
            due("shown()", m.shown(), count);
            sentence("Promise 13: -1 if there is none or k is above 29, with " + count);
            for (int k = -1; k <= 33; k++) {
                boolean there = k >= 0 && k < count && k <= 29;
                due("output(" + k + ")", m.output(k), there ? anInt(100 + k) : -1L);
            }
            int[] far = {MIN, MAX, -2, 250, 256};
            for (int k : far) {
                due("output(" + k + ")", m.output(k), -1L);
            }
        }
    }

    private static void mostOutput() {
        sentence("Promise 12: as many as a run can show");
        Machine m = new Machine();
        int five = m.num(5);
        int v = m.var(0);
        for (int half = 0; half < 2; half++) {
            m.loop(0, five, 6);
            m.loop(1, five, 5);
            m.shows(v, 5);
        }
        m.ends("two LOOPs with a LOOP each");
        due("shown()", m.shown(), 250);
        due("output(0)", m.output(0), anInt(1));
        due("output(24)", m.output(24), anInt(1));
        due("output(25)", m.output(25), anInt(2));
        due("output(29)", m.output(29), anInt(2));
        due("output(30)", m.output(30), -1L);
        due("output(249)", m.output(249), -1L);
        m.clear();
        m.show(five);
        m.ends("one value after 250");
        due("shown()", m.shown(), 1);
        due("output(0)", m.output(0), anInt(5));
        due("output(1)", m.output(1), -1L);
    }

    private static void outputIsALong() {
        sentence("Promise 13: 4 times the int, plus the sort, as a long");
        int[] ints = {MIN, MIN + 1, -536870913, -536870912, -1, 0, 1, 536870911, 536870912, MAX - 1, MAX};
        long[] want = {-8589934591L, -8589934587L, -2147483651L, -2147483647L, -3L, 1L, 5L, 2147483645L, 2147483649L,
            8589934585L, 8589934589L};
        for (int i = 0; i < ints.length; i++) {
            Machine m = new Machine();
            m.show(m.num(ints[i]));
            m.ends("an int");
            due("output of " + ints[i], m.output(0), want[i]);
        }
        sentence("Promise 13: 0 for nothing");
        Machine m = new Machine();
        m.show(m.nothing());
        m.ends("nothing");
        due("output of nothing", m.output(0), 0L);
        due("it is a value of the output", m.shown(), 1);
    }

    private static void tablesAsTheyWere() {
        sentence("Promise 13: 4 times how many entries the table had when it was shown");
        Machine m = new Machine();
        int table = m.var(0);
        int key = m.var(1);
        m.let(0, m.fresh());
        m.show(table);
        m.loop(1, m.num(5), 2);
        m.put(table, key, key);
        m.show(table);
        m.put(table, m.num(6), key);
        m.show(table);
        m.put(table, m.num(1), m.nothing());
        m.show(table);
        m.let(0, m.num(3));
        m.ends("a table that grows");
        int[] want = {0, 1, 2, 3, 4, 5, 6, 5};
        due("shown()", m.shown(), want.length);
        for (int k = 0; k < want.length; k++) {
            due("output(" + k + ")", m.output(k), 4L * want[k] + 2);
        }
    }

    private static void outputOfAFailedRun() {
        sentence("Promises 12 and 13: what was shown before a statement failed");
        Machine m = new Machine();
        int one = m.num(1);
        int fails = m.failing();
        m.shows(one, 3);
        m.ends("three");
        due("shown()", m.shown(), 3);
        m.clear();
        m.shows(one, 2);
        m.show(fails);
        m.show(one);
        m.failsAt("the third fails", 2);
        due("shown()", m.shown(), 2);
        due("output(1)", m.output(1), anInt(1));
        due("output(2)", m.output(2), -1L);
    }

    // ---- promise 14 ----

    private static void tableCounts() {
        sentence("Promise 14: The number of tables to which one can come from the variables over entries");
        for (int count = 0; count <= 9; count++) {
            Machine m = new Machine();
            int fresh = m.fresh();
            for (int v = 0; v < 6 && v < count; v++) {
                m.let(v, fresh);
            }
            for (int there = 6; there < count; there++) {
                m.put(m.var(there - 6), m.num(there), fresh);
            }
            m.ends(count + " tables");
            due("tables()", m.tables(), count);
            due("tables() again", m.tables(), count);
        }
        Machine m = new Machine();
        int table = m.var(0);
        int one = m.num(1);
        m.let(0, m.fresh());
        m.put(table, one, table);
        m.let(3, table);
        m.ends("one that has itself");
        due("tables()", m.tables(), 1);
        m.put(table, m.num(2), m.fresh());
        m.put(m.entry(table, m.num(2)), one, m.fresh());
        m.put(m.entry(m.entry(table, m.num(2)), one), one, table);
        m.ends("a ring of three");
        due("tables()", m.tables(), 3);
        m.put(table, m.num(2), m.num(0));
        m.ends("an int in the place of the way to two of them");
        due("tables()", m.tables(), 1);
        m.let(0, one);
        m.ends("one variable less");
        due("tables()", m.tables(), 1);
        m.let(3, one);
        m.ends("no variable has it");
        due("tables()", m.tables(), 0);
    }

    // ---- looking changes nothing ----

    private static void lookingChangesNothing() {
        sentence("Promises 7 to 14: a call that only answers changes nothing");
        int[] places = {-1, 0, 5, 6};
        noChange("looking at everything", LookBoundaryTest::makeValues, m -> {
            for (int v : places) {
                m.sort(v);
                m.number(v);
                m.entrySort(v, 1);
                m.entryNumber(v, 1);
                m.same(v, 0);
                m.output(v);
            }
            m.shown();
            m.tables();
            m.tables();
            m.sound();
        });
        sentence("Promises 2 to 4: making, adding and taking away leaves what the run left");
        Machine plain = withValues();
        Machine m = withValues();
        m.num(1);
        m.fresh();
        m.show(0);
        m.retract();
        m.retract();
        m.show(1);
        if (!m.looks().equals(plain.looks())) {
            fault("after making and adding: " + m.looks() + ", due is " + plain.looks());
        }
    }

    // ---- 512 calls ----

    private static void allCallsAreAnswered() {
        sentence("What it is: An object is used for at most 512 calls");
        Machine m = new Machine();
        int v0 = m.var(0);
        m.let(0, m.fresh());
        m.loop(1, m.num(5), 2);
        m.put(v0, m.var(1), m.fresh());
        m.show(v0);
        m.put(v0, m.num(6), v0);
        int rounds = 0;
        while (m.callsLeft() > 6) {
            rounds++;
            m.ends("round " + rounds);
            due("tables() in round " + rounds, m.tables(), 6);
            due("output(4) in round " + rounds, m.output(4), aTable(5));
            m.add(SHOW, v0, 0, 0);
            due("retract() in round " + rounds, m.retract(), 5);
        }
        while (m.callsLeft() > 1) {
            due("one of the last calls", m.shown(), 5);
        }
        due("call 512", m.number(0), 6);
        due("calls left", m.callsLeft(), 0);
    }

    public static void main(String[] args) {
        newObject();
        objectsAreApart();
        sorts();
        numbers();
        entrySorts();
        entryNumbers();
        sames();
        samesOutside();
        outputOfManySizes();
        mostOutput();
        outputIsALong();
        tablesAsTheyWere();
        outputOfAFailedRun();
        tableCounts();
        lookingChangesNothing();
        allCallsAreAnswered();
        end();
    }
}
