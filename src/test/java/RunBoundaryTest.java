import java.util.function.Consumer;

/*
 * What each statement does, the limit of 8 tables and how a run ends (promise 6): for each sentence
 * that names a boundary, the boundary and one step on each side of it.
 */
public final class RunBoundaryTest extends Sentences {

    // ---- LET ----

    private static void letGivesAnyValue() {
        sentence("LET: variable v gets what expression e gives");
        for (int v = 0; v < 6; v++) {
            Machine m = new Machine();
            m.let(v, m.num(MIN));
            m.ends("an int");
            for (int w = 0; w < 6; w++) {
                due("sort(" + w + ") after LET " + v, m.sort(w), w == v ? 1 : 0);
            }
            due("the int", m.number(v), MIN);
            m.let(v, m.fresh());
            m.ends("a table in its place");
            due("the table", m.sort(v), 2);
            m.let(v, m.var(v));
            m.ends("what it has");
            due("the table still", m.sort(v), 2);
            m.let(v, m.nothing());
            m.ends("nothing in its place");
            due("nothing", m.sort(v), 0);
            due("no table any more", m.tables(), 0);
        }
    }

    // ---- PUT ----

    // Variable 0 gets a table with entries for the keys from 1 on, each 10 times its key; the
    // expressions are 0 for variable 0, and k for the int k.
    private static Machine withEntries(int count) {
        Machine m = new Machine();
        m.var(0);
        for (int k = 1; k <= 8; k++) {
            m.num(k);
        }
        int ten = m.num(10);
        m.let(0, m.fresh());
        for (int k = 1; k <= count; k++) {
            m.put(0, k, m.made(4, k, ten));
        }
        return m;
    }

    private static void entriesAre(String what, Machine m, int... numbers) {
        int count = 0;
        for (int k = 1; k <= 8; k++) {
            int want = k <= numbers.length ? numbers[k - 1] : 0;
            due(what + ": the entry for " + k, m.entryNumber(0, k), want);
            due(what + ": its sort", m.entrySort(0, k), want == 0 ? 0 : 1);
            count += want == 0 ? 0 : 1;
        }
        due(what + ": how many", m.number(0), count);
    }

    private static void sixEntries() {
        sentence("PUT: fails if it would have more than 6 entries");
        for (int count = 0; count <= 6; count++) {
            Machine m = withEntries(count);
            m.ends(count + " entries");
            due(count + " entries", m.number(0), count);
            m.put(0, 8, 8);
            m.show(8);
            m.failsAt("one more than " + count, count < 6 ? NONE : 7);
            due("how many then", m.number(0), count < 6 ? count + 1 : 6);
            due("its entry", m.entryNumber(0, 8), count < 6 ? 8 : 0);
            due("what comes after it", m.shown(), count < 6 ? 1 : 0);
        }
        Machine m = withEntries(6);
        m.put(0, 7, 1);
        m.failsAt("a seventh", 7);
        entriesAre("after the seventh", m, 10, 20, 30, 40, 50, 60);
        m.retract();
        m.put(0, 7, 0);
        m.failsAt("a seventh that is a table", 7);
        entriesAre("after the seventh", m, 10, 20, 30, 40, 50, 60);
    }

    private static void anotherValueForAKey() {
        sentence("PUT: the table t gets the entry e for the int k (in the place of one)");
        for (int k = 1; k <= 6; k++) {
            for (int count = 5; count <= 6; count++) {
                Machine m = withEntries(count);
                m.put(0, k, 7);
                m.ends("another value for " + k + " of " + count);
                int[] want = {10, 20, 30, 40, 50, count == 6 ? 60 : 0};
                want[k - 1] = 7;
                entriesAre("another value for " + k + " of " + count, m, want);
            }
        }
    }

    private static void nothingForAKey() {
        sentence("PUT: none, if e is nothing");
        for (int count = 0; count <= 6; count++) {
            for (int k = 1; k <= 7; k++) {
                Machine m = withEntries(count);
                int nothing = m.nothing();
                m.put(0, k, nothing);
                m.ends("nothing for " + k + " of " + count);
                int[] want = new int[6];
                for (int i = 1; i <= count; i++) {
                    want[i - 1] = i == k ? 0 : 10 * i;
                }
                entriesAre("nothing for " + k + " of " + count, m, want);
            }
        }
    }

    private static void roomAfterNothing() {
        sentence("PUT: an entry that is taken away gives room for one");
        for (int k = 1; k <= 6; k++) {
            Machine m = withEntries(6);
            int nothing = m.nothing();
            m.put(0, k, nothing);
            m.put(0, 7, 8);
            m.ends("one for another");
            int[] want = {10, 20, 30, 40, 50, 60, 8};
            want[k - 1] = 0;
            entriesAre("one for another", m, want);
            m.put(0, k, 8);
            m.failsAt("the seventh is one too many again", 9);
        }
        Machine m = withEntries(6);
        int nothing = m.nothing();
        m.put(0, 7, nothing);
        m.put(0, 7, 8);
        m.failsAt("nothing for a key that is not there gives no room", 8);
        m = withEntries(6);
        nothing = m.nothing();
        for (int k = 1; k <= 6; k++) {
            m.put(0, k, nothing);
        }
        m.ends("all taken away");
        entriesAre("all taken away", m);
    }

    private static void eachTableHasItsOwnLimit() {
        sentence("PUT: the 6 entries are those of one table");
        Machine m = new Machine();
        int v1 = m.var(1);
        int[] tables = {m.var(2), m.var(3), m.var(4)};
        int five = m.num(5);
        int six = m.num(6);
        for (int v = 2; v <= 4; v++) {
            m.let(v, m.fresh());
        }
        m.loop(1, five, 3);
        for (int table : tables) {
            m.put(table, v1, m.made(4, v1, table == tables[1] ? five : six));
        }
        for (int table : tables) {
            m.put(table, six, v1);
        }
        m.ends("three tables with 6 entries");
        for (int v = 2; v <= 4; v++) {
            due("how many", m.number(v), 6);
            for (int key = 1; key <= 6; key++) {
                int want = key == 6 ? 5 : v == 3 ? 5 * key : 6 * key;
                due("the entry for " + key + " in " + v, m.entryNumber(v, key), want);
            }
        }
        m.put(tables[1], m.num(7), six);
        m.failsAt("a seventh in the second", 10);
    }

    private static void putFails() {
        sentence("PUT: fails if t is no table or k no int (or one of the three fails)");
        for (int t = 0; t < 4; t++) {
            for (int k = 0; k < 4; k++) {
                for (int e = 0; e < 4; e++) {
                    onePut(t, k, e);
                }
            }
        }
    }

    // Each of t, k and e is nothing, an int, a table or one that fails, in this order.
    private static void onePut(int t, int k, int e) {
        Machine m = new Machine();
        int[] parts = {m.nothing(), m.num(3), m.var(0), m.failing()};
        m.let(0, m.fresh());
        m.put(m.var(0), m.num(3), m.num(9));
        m.put(parts[t], parts[k], parts[e]);
        m.show(m.num(1));
        boolean good = t == 2 && k == 1 && e != 3;
        String what = "PUT of " + t + " " + k + " " + e;
        m.failsAt(what, good ? NONE : 2);
        due(what + ": how many", m.number(0), good && e == 0 ? 0 : 1);
        int sort = !good ? 1 : e;
        due(what + ": the sort", m.entrySort(0, 3), sort);
        due(what + ": the number", m.entryNumber(0, 3), !good ? 9 : e == 0 ? 0 : e == 1 ? 3 : 1);
        due(what + ": what comes after", m.shown(), good ? 1 : 0);
    }

    private static void workedOutBeforeThePut() {
        sentence("PUT: t, k and e are worked out (before the table gets the entry)");
        Machine m = new Machine();
        int table = m.var(0);
        int count = m.made(12, table, 0);
        m.let(0, m.fresh());
        for (int i = 0; i < 6; i++) {
            m.put(table, count, count);
        }
        m.ends("the count as key and as entry");
        for (int key = 0; key < 6; key++) {
            due("the sort for " + key, m.entrySort(0, key), 1);
            due("the entry for " + key, m.entryNumber(0, key), key);
        }
        m.put(table, count, count);
        m.failsAt("once more", 7);
        Machine n = new Machine();
        n.put(n.fresh(), n.num(1), n.fresh());
        n.ends("PUT in a table that nobody has");
        due("no table is left", n.tables(), 0);
    }

    // ---- IF ----

    private static void leavesOutExactly() {
        sentence("IF: if e gives nothing the next n statements (n from 1 to 6) are left out");
        for (int n = 1; n <= 6; n++) {
            for (int after = 0; after <= 2; after++) {
                Machine m = new Machine();
                int nothing = m.nothing();
                m.when(nothing, n);
                for (int i = 1; i <= n + after; i++) {
                    m.show(m.num(i));
                }
                m.ends("IF over " + n);
                due("IF over " + n + ", " + after + " after it", m.shown(), after);
                due("the first that is executed", m.output(0), after == 0 ? -1 : anInt(n + 1));
            }
        }
    }

    private static void leavesOutForNothingOnly() {
        sentence("IF: only nothing leaves them out");
        Machine m = new Machine();
        int[] something = {m.num(0), m.num(-1), m.num(1), m.num(MIN), m.fresh()};
        for (int e : something) {
            for (int n = 1; n <= 6; n += 5) {
                m.when(e, n);
                m.shows(0, n + 1);
                m.ends("IF of something");
                due("IF of something over " + n, m.shown(), n + 1);
                m.clear();
            }
        }
        m.when(m.failing(), 1);
        m.shows(0, 2);
        m.failsAt("IF of one that fails", 0);
        due("nothing is shown", m.shown(), 0);
    }

    private static void leftOutDoNothing() {
        sentence("IF: what is left out is not executed");
        Machine m = new Machine();
        int nothing = m.nothing();
        int one = m.num(1);
        int fails = m.failing();
        m.when(nothing, 6);
        m.show(fails);
        m.let(0, one);
        m.loop(1, one, 1);
        m.show(one);
        m.when(one, 1);
        m.show(one);
        m.let(2, one);
        m.ends("all that is left out");
        due("no LET", m.sort(0), 0);
        due("no LOOP", m.sort(1), 0);
        due("no SHOW", m.shown(), 0);
        due("what comes after", m.sort(2), 1);
    }

    // Two nested IFs, the outer over 4 and the inner over 2: which of the statements are executed.
    private static void nestedIfs() {
        sentence("IF: one inside another leaves out its own");
        int[][] shown = {{0, 1, 2, 3, 4}, {0, 3, 4}, {4}, {4}};
        for (int which = 0; which < 4; which++) {
            Machine m = new Machine();
            int nothing = m.nothing();
            int zero = m.num(0);
            m.when(which >= 2 ? nothing : zero, 5);
            m.show(zero);
            m.when(which % 2 == 1 ? nothing : zero, 2);
            for (int i = 1; i <= 4; i++) {
                m.show(m.num(i));
            }
            m.ends("nested IFs");
            due("how many, case " + which, m.shown(), shown[which].length);
            for (int k = 0; k < shown[which].length; k++) {
                due("case " + which + ", output " + k, m.output(k), anInt(shown[which][k]));
            }
        }
    }

    // ---- LOOP ----

    private static void turns() {
        sentence("LOOP: up to what e gave but at most up to 5, if e gave less than 1 they are left out");
        int[][] limits = {{MIN, 0}, {MIN + 1, 0}, {-2, 0}, {-1, 0}, {0, 0}, {1, 1}, {2, 2}, {3, 3}, {4, 4}, {5, 5},
            {6, 5}, {7, 5}, {256, 5}, {MAX - 1, 5}, {MAX, 5}};
        for (int[] limit : limits) {
            Machine m = new Machine();
            int v = m.var(1);
            String what = "LOOP up to " + limit[0];
            m.let(1, m.num(77));
            m.loop(1, m.num(limit[0]), 1);
            m.show(v);
            m.let(2, v);
            m.ends(what);
            due(what + ": turns", m.shown(), limit[1]);
            for (int k = 0; k < limit[1]; k++) {
                due(what + ": turn " + (k + 1), m.output(k), anInt(k + 1));
            }
            due(what + ": v after it", m.number(1), limit[1] == 0 ? 77 : limit[1]);
            due(what + ": what comes after it is executed", m.number(2), limit[1] == 0 ? 77 : limit[1]);
        }
    }

    private static void loopsOverExactly() {
        sentence("LOOP: the next n statements are executed");
        for (int n = 1; n <= 6; n++) {
            for (int limit = 0; limit <= 2; limit++) {
                Machine m = new Machine();
                m.loop(0, m.num(limit), n);
                for (int i = 1; i <= n + 2; i++) {
                    m.show(m.num(i));
                }
                m.ends("LOOP over " + n);
                due("LOOP over " + n + " up to " + limit, m.shown(), limit * n + 2);
                for (int k = 0; k < limit * n; k++) {
                    due("output " + k, m.output(k), anInt(k % n + 1));
                }
                due("after it", m.output(limit * n), anInt(n + 1));
                due("and the last", m.output(limit * n + 1), anInt(n + 2));
            }
        }
    }

    private static void loopFails() {
        sentence("LOOP: fails if e gives no int");
        for (int which = 0; which < 4; which++) {
            Machine m = new Machine();
            int[] limits = {m.nothing(), m.fresh(), m.failing(), m.num(1)};
            m.let(1, m.num(9));
            m.loop(1, limits[which], 1);
            m.show(m.var(1));
            m.failsAt("limit " + which, which == 3 ? NONE : 1);
            due("what v has", m.number(1), which == 3 ? 1 : 9);
            due("turns", m.shown(), which == 3 ? 1 : 0);
        }
    }

    private static void limitIsWorkedOutOnce() {
        sentence("LOOP: up to what e gave (worked out once)");
        for (int v = 0; v <= 1; v++) {
            for (int later = 1; later <= 5; later += 4) {
                Machine m = new Machine();
                int limit = m.var(0);
                m.let(0, m.num(3));
                m.loop(v, limit, 2);
                m.let(0, m.num(later));
                m.show(limit);
                m.ends("the limit is changed to " + later);
                due("LOOP " + v + ", turns", m.shown(), 3);
            }
        }
        Machine m = new Machine();
        int table = m.var(0);
        m.let(0, m.fresh());
        m.put(table, m.num(0), m.num(0));
        m.loop(1, m.made(12, table, 0), 1);
        m.put(table, m.var(1), m.num(0));
        m.ends("a count that grows");
        due("one turn", m.number(0), 2);
        m.clear();
        int nothing = m.nothing();
        m.let(0, m.num(2));
        m.loop(1, table, 2);
        m.let(0, nothing);
        m.show(m.var(1));
        m.ends("a limit that becomes nothing");
        due("two turns", m.shown(), 2);
    }

    private static void whatTheyDoToV() {
        sentence("LOOP: what they do to v plays no part in that");
        for (int which = 0; which < 6; which++) {
            Machine m = new Machine();
            int v = m.var(0);
            int[] values = {m.num(0), m.num(1), m.num(5), m.num(MAX), m.nothing(), m.fresh()};
            m.loop(0, m.num(3), 2);
            m.show(v);
            m.let(0, values[which]);
            m.ends("v is changed");
            due("turns", m.shown(), 3);
            for (int k = 0; k < 3; k++) {
                due("v at turn " + (k + 1), m.output(k), anInt(k + 1));
            }
            due("v keeps what it got last", m.sort(0), which < 4 ? 1 : which == 4 ? 0 : 2);
        }
    }

    private static void vGetsItsNumberFirst() {
        sentence("LOOP: each time v gets this number first");
        for (int v = 0; v < 6; v++) {
            Machine m = new Machine();
            int e = m.var(v);
            m.let(v, m.fresh());
            m.loop(v, m.num(2), 2);
            m.show(e);
            m.let(v, m.made(2, e, m.num(10)));
            m.ends("v is read and changed");
            due("turn 1", m.output(0), anInt(1));
            due("turn 2", m.output(1), anInt(2));
            due("at the end", m.number(v), 12);
            due("no other variable is touched", m.sort(v == 0 ? 5 : v - 1), 0);
        }
    }

    private static void loopInLoop() {
        sentence("LOOP: one inside another is executed at each turn of it");
        for (int outer = 0; outer <= 6; outer++) {
            for (int inner = 0; inner <= 6; inner++) {
                Machine m = new Machine();
                m.loop(0, m.num(outer), 2);
                m.loop(1, m.num(inner), 1);
                m.show(m.made(2, m.made(4, m.var(0), m.num(10)), m.var(1)));
                m.show(m.num(99));
                m.ends("a LOOP in a LOOP");
                int rows = outer > 5 ? 5 : outer;
                int columns = inner > 5 ? 5 : inner;
                due(outer + " times " + inner, m.shown(), rows * columns + 1);
                for (int k = 0; k < rows * columns; k++) {
                    due("output " + k, m.output(k), anInt(10 * (k / columns + 1) + k % columns + 1));
                }
                due("after both", m.output(rows * columns), anInt(99));
            }
        }
    }

    private static void loopsWithOneVariable() {
        sentence("LOOP: two of them with one variable keep their own turns");
        Machine m = new Machine();
        int v = m.var(0);
        m.loop(0, m.num(3), 4);
        m.show(v);
        m.loop(0, m.num(2), 1);
        m.show(v);
        m.show(m.made(4, v, m.num(7)));
        m.ends("both have variable 0");
        int[] want = {1, 1, 2, 14, 2, 1, 2, 14, 3, 1, 2, 14};
        due("how many", m.shown(), want.length);
        for (int k = 0; k < want.length; k++) {
            due("output " + k, m.output(k), anInt(want[k]));
        }
    }

    private static void innerLimitIsWorkedOutAnew() {
        sentence("LOOP: an inner one works e out each time it is come to");
        Machine m = new Machine();
        m.loop(0, m.num(4), 2);
        m.loop(1, m.made(3, m.var(0), m.num(1)), 1);
        m.show(m.var(0));
        m.ends("the inner limit is one less than the outer number");
        int[] want = {2, 3, 3, 4, 4, 4};
        due("how many", m.shown(), want.length);
        for (int k = 0; k < want.length; k++) {
            due("output " + k, m.output(k), anInt(want[k]));
        }
        m.clear();
        int nothing = m.nothing();
        m.loop(0, m.num(5), 2);
        m.loop(1, m.made(7, m.made(5, m.var(0), m.num(3)), m.num(1)), 1);
        m.show(m.var(0));
        m.failsAt("the inner limit is nothing from turn 3 on", 1);
        due("two were shown", m.shown(), 2);
        due("the turn it failed in", m.number(0), 3);
        m.clear();
        m.show(nothing);
        m.ends("a run after that");
        due("one is shown", m.shown(), 1);
    }

    private static void loopAndIf() {
        sentence("LOOP and IF inside each other");
        Machine m = new Machine();
        int v = m.var(0);
        int three = m.num(3);
        m.loop(0, m.num(5), 3);
        m.when(m.made(5, v, three), 2);
        m.show(v);
        m.show(three);
        m.show(m.num(50));
        m.ends("IF at the end of a LOOP");
        int[] want = {1, 3, 2, 3, 50};
        due("how many", m.shown(), want.length);
        for (int k = 0; k < want.length; k++) {
            due("output " + k, m.output(k), anInt(want[k]));
        }
        m.clear();
        for (int taken = 0; taken < 2; taken++) {
            m.when(taken == 1 ? three : m.nothing(), 2);
            m.loop(0, three, 1);
            m.show(v);
            m.show(three);
            m.ends("a LOOP in an IF");
            due("how many", m.shown(), taken == 1 ? 4 : 1);
            due("what the LOOP left", m.sort(0), taken);
            m.clear();
        }
    }

    private static void failsInATurn() {
        sentence("LOOP: a statement that fails in a turn ends the run");
        for (int turn = 1; turn <= 6; turn++) {
            Machine m = new Machine();
            int v = m.var(0);
            int isTurn = m.made(6, v, m.num(turn));
            m.loop(0, m.num(9), 3);
            m.show(v);
            m.when(isTurn, 1);
            m.show(m.failing());
            m.show(v);
            m.failsAt("failing in turn " + turn, turn <= 5 ? 3 : NONE);
            due("shown", m.shown(), turn <= 5 ? turn : 6);
            due("v", m.number(0), turn <= 5 ? turn : 5);
        }
    }

    // ---- SHOW ----

    private static void showAddsAtTheEnd() {
        sentence("SHOW: the value is added to the end of the output");
        Machine m = new Machine();
        m.show(m.num(4));
        m.show(m.nothing());
        m.show(m.fresh());
        m.show(m.num(4));
        m.show(m.var(5));
        m.ends("five values");
        long[] want = {anInt(4), NOTHING, aTable(0), anInt(4), NOTHING};
        due("shown", m.shown(), want.length);
        for (int k = 0; k < want.length; k++) {
            due("output " + k, m.output(k), want[k]);
        }
    }

    // ---- the 8 tables ----

    // Expressions: 0 to 5 the variables, 6 a new table, 7 the int 1, 8 the int 2.
    private static final int NEW = 6;
    private static final int N1 = 7;
    private static final int N2 = 8;

    private static Machine withVariables() {
        Machine m = new Machine();
        makeVariables(m);
        return m;
    }

    private static void makeVariables(Machine m) {
        for (int v = 0; v < 6; v++) {
            m.var(v);
        }
        m.fresh();
        m.num(1);
        m.num(2);
    }

    // A chain: variable 1 has its last table, and each LET of it goes one on.
    private static void chain(Machine m, int count) {
        int on = m.made(8, m.entry(1, N1), 1);
        m.let(0, NEW);
        m.let(1, 0);
        m.loop(2, N2, 3);
        m.loop(3, m.num(3), 2);
        m.let(1, on);
        m.put(1, N1, NEW);
        for (int there = 7; there < count; there++) {
            m.let(1, on);
            m.put(1, N1, NEW);
        }
    }

    // One table in each variable, the rest as entries of the last of them.
    private static void wide(Machine m, int count) {
        for (int v = 0; v < 6; v++) {
            m.let(v, NEW);
        }
        for (int there = 6; there < count; there++) {
            m.put(5, m.num(there), NEW);
        }
    }

    // All are entries of the table in variable 0, or of its entry for 1, which has it back.
    private static void ring(Machine m, int count) {
        m.let(0, NEW);
        m.put(0, N1, NEW);
        int inner = m.entry(0, N1);
        m.put(inner, N1, 0);
        for (int there = 2; there < count; there++) {
            m.put(there % 2 == 0 ? 0 : inner, m.num(there), NEW);
        }
    }

    private static void tablesAre(String shape, Consumer<Machine> build, int count) {
        String what = shape + ", " + count + " tables";
        Machine m = withVariables();
        build.accept(m);
        m.ends(what);
        due(what + ": tables()", m.tables(), count);
        int statements = m.state(SHOW, N1, 0, 0) - 1;
        m.failsAt(what + ", one more statement", count <= 8 ? NONE : statements);
        due(what + ": what it does", m.shown(), count <= 8 ? 1 : 0);
        due(what + ": tables() then", m.tables(), count);
    }

    private static void eightTables() {
        sentence("Terms: it fails if more than 8 tables can be come to from the variables over entries");
        for (int count = 7; count <= 9; count++) {
            int tables = count;
            tablesAre("one in each variable and entries", m -> wide(m, tables), tables);
            tablesAre("a ring with entries", m -> ring(m, tables), tables);
            tablesAre("a chain", m -> chain(m, tables), tables);
        }
    }

    private static void eachOpAtTheLimit() {
        sentence("Terms: When a statement is come to, it fails (whatever it is) with more than 8 tables");
        int six = 9;
        int zero = 10;
        int nothing = 11;
        int[][] all = {{LET, 5, N1, 0}, {LET, 0, nothing, 0}, {PUT, 5, N1, N2}, {PUT, 5, six, 4},
            {PUT, 5, six, nothing}, {IF, N1, 1, 0}, {IF, nothing, 1, 0}, {LOOP, 5, N1, 1}, {LOOP, 4, zero, 1},
            {SHOW, N1, 0, 0}, {SHOW, 5, 0, 0}};
        for (int[] it : all) {
            for (int count = 8; count <= 9; count++) {
                Machine m = withVariables();
                due("the int 6", m.num(6), six);
                due("the int 0", m.num(0), zero);
                due("nothing", m.made(9, N1, 0), nothing);
                wide(m, count);
                m.add(it[0], it[1], it[2], it[3]);
                m.show(N1);
                String what = "statement " + it[0] + " " + it[1] + " " + it[2] + " with " + count;
                m.failsAt(what, count == 8 ? NONE : 9);
                if (count == 9) {
                    due(what + ": shown", m.shown(), 0);
                    due(what + ": tables", m.tables(), 9);
                    due(what + ": entries", m.number(5), 3);
                }
            }
        }
    }

    private static void oneTableCountsOnce() {
        sentence("Terms: a table to which several ways lead is one table");
        for (int count = 7; count <= 9; count++) {
            Machine m = withVariables();
            m.let(0, NEW);
            m.loop(1, m.num(5), 1);
            m.put(0, 1, NEW);
            m.let(1, m.entry(0, N1));
            m.let(2, 0);
            m.put(1, N1, 0);
            m.put(1, N2, m.entry(0, N2));
            m.put(m.entry(0, N2), N1, 1);
            for (int there = 6; there < count; there++) {
                m.put(1, m.num(there), NEW);
            }
            m.ends("ways to " + count);
            due("ways to " + count, m.tables(), count);
            int last = m.state(LET, 3, 0, 0) - 1;
            m.failsAt("one way more to " + count, count <= 8 ? NONE : last);
        }
    }

    private static void lostTablesDoNotCount() {
        sentence("Terms: tables that can't be come to any more do not count");
        for (int base = 7; base <= 8; base++) {
            Machine m = withVariables();
            int five = m.num(5);
            m.let(0, NEW);
            m.loop(1, five, 1);
            m.put(0, 1, NEW);
            m.put(0, m.num(6), NEW);
            m.let(4, base == 8 ? NEW : N1);
            m.loop(1, five, 3);
            m.loop(2, five, 2);
            m.let(3, NEW);
            m.put(3, N1, 3);
            m.failsAt("25 tables that have themselves, beside " + base, base == 7 ? NONE : 8);
            due("those that are there", m.tables(), base + 1);
        }
        for (int base = 5; base <= 6; base++) {
            Machine m = withVariables();
            m.let(0, NEW);
            m.loop(1, m.num(base - 1), 1);
            m.put(0, 1, NEW);
            m.loop(1, m.num(5), 5);
            m.loop(2, m.num(5), 4);
            m.let(3, NEW);
            m.let(4, NEW);
            m.put(3, N1, 4);
            m.put(4, N1, 3);
            m.failsAt("25 pairs that have each other, beside " + base, base == 5 ? NONE : 6);
            due("those that are there", m.tables(), base == 5 ? 7 : 9);
        }
    }

    private static void passingTablesDoNotCount() {
        sentence("Terms: tables that a statement makes and leaves do not count (12, in t, k and e)");
        Machine m = withVariables();
        int four = m.made(7, m.made(7, m.made(7, NEW, NEW), NEW), NEW);
        int unlike = m.made(6, NEW, NEW);
        int key = m.made(6, unlike, unlike);
        wide(m, 8);
        m.put(four, key, four);
        m.show(four);
        m.let(0, four);
        m.when(four, 1);
        m.put(four, key, four);
        m.ends("many that pass");
        due("those that stay", m.tables(), 8);
        due("the shown one", m.output(0), aTable(0));
        due("the key that two unlike pairs make", m.worth(key), anInt(1));
        for (int v = 0; v < 6; v++) {
            due("entries of variable " + v, m.number(v), v == 5 ? 2 : 0);
        }
        m.put(5, key, four);
        m.ends("one that stays at the end");
        due("with it", m.tables(), 9);
        due("it is the entry for 1", m.entrySort(5, 1), 2);
    }

    private static void theLastStatementMayMakeANinth() {
        sentence("Terms: it is when a statement is come to that the tables are counted");
        for (int count = 8; count <= 9; count++) {
            Machine m = withVariables();
            wide(m, count);
            m.ends("made by the last statement: " + count);
            due("they are there", m.tables(), count);
            due("the last one is an entry", m.entrySort(5, count - 1), 2);
            m.ends("the next run begins with none");
            due("they are there again", m.tables(), count);
        }
    }

    // 7 tables, and one more at the end of each turn.
    private static void tablesInALoop() {
        sentence("Terms: the first statement of a turn is come to at each turn");
        for (int limit = 1; limit <= 3; limit++) {
            for (int after = 0; after <= 1; after++) {
                Machine m = withVariables();
                m.let(0, NEW);
                m.loop(1, m.num(5), 1);
                m.put(0, 1, NEW);
                m.let(3, NEW);
                m.loop(2, m.num(limit), 2);
                m.show(N1);
                m.put(3, 2, NEW);
                m.shows(N2, after);
                int want = limit == 1 || limit == 2 && after == 0 ? NONE : limit == 2 ? 7 : 5;
                m.failsAt("up to " + limit + " and " + after + " after it", want);
                due("tables", m.tables(), limit == 1 ? 8 : 9);
                due("shown", m.shown(), limit == 1 ? 1 + after : 2);
                due("the turn", m.number(2), limit);
            }
        }
    }

    private static void aTurnMayFreeATable() {
        sentence("LOOP: v gets its number before a statement is come to");
        for (int v = 4; v <= 5; v++) {
            Machine m = withVariables();
            m.let(0, NEW);
            m.loop(1, m.num(5), 1);
            m.put(0, 1, NEW);
            m.let(2, NEW);
            m.let(3, NEW);
            m.loop(v, N2, 2);
            m.show(v);
            m.let(5, NEW);
            m.failsAt("the ninth is in variable 5, the LOOP's is " + v, v == 5 ? NONE : 6);
            due("shown", m.shown(), v == 5 ? 2 : 1);
            due("tables", m.tables(), 9);
        }
    }

    private static void leftOutIsNotComeTo() {
        sentence("Terms: a statement that is left out is not come to");
        for (int which = 0; which < 2; which++) {
            Machine m = withVariables();
            int condition = which == 0 ? m.nothing() : N1;
            wide(m, 8);
            m.when(condition, 2);
            m.put(5, N1, NEW);
            m.show(N1);
            m.show(N2);
            m.failsAt("the ninth behind an IF", which == 0 ? NONE : 10);
            due("tables", m.tables(), which == 0 ? 8 : 9);
            due("shown", m.shown(), which == 0 ? 1 : 0);
        }
    }

    // ---- how a run ends ----

    private static void prepare(Machine m) {
        m.let(0, NEW);
        m.let(1, N2);
        m.put(0, N1, N2);
        m.put(0, N2, NEW);
        m.show(0);
    }

    private static void nothingElseIsDone() {
        sentence("Terms: A run ends when a statement fails; nothing else of that statement is done");
        int fails = 9;
        int nothing = 10;
        int[][] failing = {{LET, 1, fails, 0}, {LET, 0, fails, 0}, {LET, 5, fails, 0}, {PUT, fails, N1, N1},
            {PUT, 0, fails, N1}, {PUT, 0, N1, fails}, {PUT, 1, N1, N1}, {PUT, 5, N1, N1}, {PUT, 0, 0, N1},
            {PUT, 0, 5, N1}, {PUT, 0, nothing, nothing}, {PUT, 1, N1, nothing}, {IF, fails, 1, 0}, {LOOP, 1, fails, 1},
            {LOOP, 1, nothing, 1}, {LOOP, 1, NEW, 1}, {LOOP, 0, 0, 1}, {SHOW, fails, 0, 0}};
        for (int[] it : failing) {
            Machine plain = withVariables();
            prepare(plain);
            plain.ends("without it");
            Machine m = withVariables();
            due("one that fails", m.made(12, N1, 0), fails);
            due("nothing", m.made(9, N1, 0), nothing);
            prepare(m);
            m.add(it[0], it[1], it[2], it[3]);
            m.show(N2);
            m.let(4, N2);
            String what = "statement " + it[0] + " " + it[1] + " " + it[2] + " " + it[3];
            m.failsAt(what, 5);
            if (!m.looks().equals(plain.looks())) {
                fault(what + ": " + m.looks() + ", due is " + plain.looks());
            }
        }
    }

    private static void seventhEntryDoesNothing() {
        sentence("Terms: nothing else is done of a PUT that would make 7 entries");
        Machine plain = withEntries(6);
        plain.ends("6 entries");
        for (int e = 0; e <= 1; e++) {
            Machine m = withEntries(6);
            m.put(0, 8, e);
            m.let(0, 1);
            m.failsAt("a seventh", 7);
            if (!m.looks().equals(plain.looks())) {
                fault("after a seventh: " + m.looks() + ", due is " + plain.looks());
            }
        }
    }

    // ---- promise 6 ----

    // Statements behind those of prepare that are not sound, each for one reason.
    private static void addUnsound(Machine m, int reason) {
        if (reason == 0) {
            m.when(N1, 1);
        } else if (reason == 1) {
            m.loop(3, N1, 2);
            m.show(N1);
        } else if (reason == 2) {
            m.when(N1, 1);
            m.when(N1, 1);
            m.show(N1);
        } else {
            m.loop(3, N1, 3);
            m.loop(3, N1, 2);
            m.loop(3, N1, 1);
            m.show(N1);
        }
    }

    private static void buildUnsound(Machine m, int reason) {
        makeVariables(m);
        prepare(m);
        m.ends("the run before");
        addUnsound(m, reason);
    }

    private static Machine beforeUnsound(int reason) {
        Machine m = new Machine();
        buildUnsound(m, reason);
        return m;
    }

    private static void unsoundChangesNothing() {
        sentence("Promise 6: UNSOUND, with nothing changed, if the statements are not sound");
        for (int reason = 0; reason < 4; reason++) {
            int it = reason;
            noChange("an unsound run, reason " + reason, m -> buildUnsound(m, it), m -> {
                due("run()", m.run(), UNSOUND);
                due("run() again", m.run(), UNSOUND);
            });
            Machine m = beforeUnsound(reason);
            due("run()", m.run(), UNSOUND);
            due("the table stays", m.number(0), 2);
            due("its entry stays", m.entryNumber(0, 1), 2);
            due("its other entry stays", m.entrySort(0, 2), 2);
            due("the int stays", m.number(1), 2);
            due("the output stays", m.shown(), 1);
            due("the value shown stays", m.output(0), aTable(2));
            due("the tables stay", m.tables(), 2);
        }
    }

    private static void soundAgain() {
        sentence("Promise 6: statements that are made sound again are run");
        int[] extra = {1, 2, 3, 4};
        for (int reason = 0; reason < 4; reason++) {
            Machine m = beforeUnsound(reason);
            due("unsound", m.run(), UNSOUND);
            for (int i = 0; i < extra[reason]; i++) {
                m.retract();
            }
            m.ends("without the unsound ones");
            due("the output is that of one run", m.shown(), 1);
        }
        Machine m = beforeUnsound(0);
        due("unsound", m.run(), UNSOUND);
        m.show(1);
        m.ends("with the one that was missing");
        due("two are shown", m.shown(), 2);
        due("the second", m.output(1), anInt(2));
    }

    private static void eachRunBeginsAnew() {
        sentence("Promise 6: all variables get nothing and the output is made empty");
        Machine m = withVariables();
        for (int v = 0; v < 6; v++) {
            m.show(v);
            m.let(v, v % 2 == 0 ? NEW : N2);
        }
        for (int run = 0; run < 3; run++) {
            m.ends("run " + run);
            due("shown", m.shown(), 6);
            due("tables", m.tables(), 3);
            for (int k = 0; k < 6; k++) {
                due("variable " + k + " had nothing", m.output(k), NOTHING);
                due("variable " + k + " has", m.sort(k), k % 2 == 0 ? 2 : 1);
            }
        }
        m.clear();
        m.ends("a run of no statements");
        for (int v = 0; v < 6; v++) {
            due("variable " + v, m.sort(v), 0);
            due("its number", m.number(v), 0);
        }
        due("the output is empty", m.shown(), 0);
        due("no value 0", m.output(0), -1L);
        due("no tables", m.tables(), 0);
    }

    private static void aRunAfterAFailure() {
        sentence("Promise 6: a run after one that failed begins anew");
        Machine m = withVariables();
        int fails = m.made(12, N1, 0);
        m.loop(0, m.num(5), 3);
        m.loop(1, m.num(5), 2);
        m.let(2, NEW);
        m.show(m.made(8, m.made(5, 1, N2), fails));
        m.failsAt("in the second turn of the inner one", 3);
        due("one was shown", m.shown(), 1);
        due("the inner turn", m.number(1), 2);
        m.failsAt("once more", 3);
        due("one was shown", m.shown(), 1);
        m.clear();
        m.shows(N1, 4);
        m.ends("other statements");
        due("four are shown", m.shown(), 4);
        for (int v = 0; v < 6; v++) {
            due("variable " + v, m.sort(v), 0);
        }
    }

    private static void answersOfRun() {
        sentence("Promise 6: Answers the number of the statement that failed, NONE if none did");
        Machine m = withVariables();
        int fails = m.made(12, N1, 0);
        m.ends("no statements");
        m.show(N1);
        m.ends("one that does not fail");
        m.retract();
        m.show(fails);
        m.failsAt("the first fails", 0);
        m.show(fails);
        m.failsAt("the first of two that fail", 0);
        m.clear();
        m.shows(N1, 13);
        m.show(fails);
        m.failsAt("the last of 14 fails", 13);
        m.retract();
        m.show(N1);
        m.ends("none of 14 fails");
        m.clear();
        m.when(N1, 1);
        m.show(fails);
        m.failsAt("inside an IF", 1);
        m.clear();
        m.when(m.made(9, N1, 0), 1);
        m.show(fails);
        m.ends("a failing one that is left out");
    }

    public static void main(String[] args) {
        letGivesAnyValue();
        sixEntries();
        anotherValueForAKey();
        nothingForAKey();
        roomAfterNothing();
        eachTableHasItsOwnLimit();
        putFails();
        workedOutBeforeThePut();
        leavesOutExactly();
        leavesOutForNothingOnly();
        leftOutDoNothing();
        nestedIfs();
        turns();
        loopsOverExactly();
        loopFails();
        limitIsWorkedOutOnce();
        whatTheyDoToV();
        vGetsItsNumberFirst();
        loopInLoop();
        loopsWithOneVariable();
        innerLimitIsWorkedOutAnew();
        loopAndIf();
        failsInATurn();
        showAddsAtTheEnd();
        eightTables();
        eachOpAtTheLimit();
        oneTableCountsOnce();
        lostTablesDoNotCount();
        passingTablesDoNotCount();
        theLastStatementMayMakeANinth();
        tablesInALoop();
        aTurnMayFreeATable();
        leftOutIsNotComeTo();
        nothingElseIsDone();
        seventhEntryDoesNothing();
        unsoundChangesNothing();
        soundAgain();
        eachRunBeginsAnew();
        aRunAfterAFailure();
        answersOfRun();
        end();
    }
}
