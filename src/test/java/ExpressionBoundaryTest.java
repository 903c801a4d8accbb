/*
 * Values, expressions and promise 2: for each sentence that names a boundary, the boundary and one
 * step on each side of it.
 */
public final class ExpressionBoundaryTest extends Sentences {

    // ---- values ----

    private static void arithmeticWraps() {
        sentence("Terms: arithmetic wraps as in Java");
        int[][] sums = {{MAX - 1, 1, MAX}, {MAX, 0, MAX}, {MAX, 1, MIN}, {MAX, 2, MIN + 1}, {MIN + 1, -1, MIN},
            {MIN, 0, MIN}, {MIN, -1, MAX}, {MIN, -2, MAX - 1}, {MAX, MAX, -2}, {MIN, MIN, 0}, {MAX, MIN, -1}};
        int[][] differences = {{MIN + 1, 1, MIN}, {MIN, 0, MIN}, {MIN, 1, MAX}, {MIN, 2, MAX - 1}, {MAX - 1, -1, MAX},
            {MAX, -1, MIN}, {MAX, -2, MIN + 1}, {0, MAX, MIN + 1}, {-1, MAX, MIN}, {-2, MAX, MAX}, {-1, MIN, MAX},
            {0, MIN, MIN}, {MAX, MIN, -1}, {MIN, MIN, 0}};
        int[][] products = {{46340, 46340, 2147395600}, {46341, 46341, -2147479015}, {65536, 32767, 2147418112},
            {65536, 32768, MIN}, {65536, 32769, -2147418112}, {65536, -32768, MIN}, {65536, -32769, 2147418112},
            {65536, 65535, -65536}, {65536, 65536, 0}, {65536, 65537, 65536}, {MAX, -1, MIN + 1}, {MIN, 1, MIN},
            {MIN, -1, MIN}, {MAX, 2, -2}, {MIN, 2, 0}, {MAX, MAX, 1}, {MIN, MIN, 0}, {MIN, MAX, MIN}};
        for (int[] it : sums) {
            wraps(2, it);
        }
        for (int[] it : differences) {
            wraps(3, it);
        }
        for (int[] it : products) {
            wraps(4, it);
        }
    }

    private static void wraps(int kind, int[] it) {
        Machine m = new Machine();
        int e = m.made(kind, m.num(it[0]), m.num(it[1]));
        String what = "kind " + kind + " of " + it[0] + " and " + it[1];
        m.let(0, e);
        m.show(e);
        m.ends(what);
        due(what + " as a variable's number", m.number(0), it[2]);
        due(what + " as output", m.output(0), anInt(it[2]));
        int key = m.num(it[2]);
        due(what + " is the same as the int", m.worth(m.made(6, e, key)), anInt(1));
        m.clear();
        m.let(1, m.fresh());
        m.put(m.var(1), e, m.num(8));
        m.ends(what + " as a key");
        due("the entry for that key", m.entryNumber(1, it[2]), 8);
    }

    private static void keysAreInts() {
        sentence("Terms: entries for some ints (their keys)");
        int[] keys = {MIN, MIN + 1, -1, 0, MAX - 1, MAX};
        int[] others = {MIN + 2, -2, 1, MAX - 2, 2, 65535, 65536, 3};
        Machine m = new Machine();
        int table = m.var(0);
        m.let(0, m.fresh());
        for (int i = 0; i < keys.length; i++) {
            m.put(table, m.num(keys[i]), m.num(i + 10));
        }
        m.ends("six keys");
        due("there are six", m.number(0), 6);
        for (int i = 0; i < keys.length; i++) {
            due("the entry for " + keys[i], m.entryNumber(0, keys[i]), i + 10);
            due("the sort for " + keys[i], m.entrySort(0, keys[i]), 1);
        }
        for (int key : others) {
            due("no entry for " + key, m.entrySort(0, key), 0);
            due("no number for " + key, m.entryNumber(0, key), 0);
        }
    }

    private static void entriesAreNotNothing() {
        sentence("Terms: a value that is not nothing");
        int[] numbers = {-1, 0, 1};
        for (int number : numbers) {
            Machine m = new Machine();
            m.let(0, m.fresh());
            m.put(m.var(0), m.num(1), m.num(number));
            m.ends("an int as entry");
            due("the int " + number + " is an entry", m.number(0), 1);
        }
        Machine m = new Machine();
        m.let(0, m.fresh());
        m.put(m.var(0), m.num(1), m.fresh());
        m.ends("a table without entries as entry");
        due("a table without entries is an entry", m.number(0), 1);
        m.put(m.var(0), m.num(2), m.nothing());
        m.put(m.var(0), m.num(1), m.nothing());
        m.ends("nothing as entry");
        due("nothing is none", m.number(0), 0);
        due("no sort", m.entrySort(0, 2), 0);
    }

    private static void sixVariables() {
        sentence("Terms: There are 6 VARIABLES, 0 to 5");
        Machine m = new Machine();
        for (int v = 0; v < 6; v++) {
            m.let(v, m.num(v + 20));
        }
        m.ends("six variables");
        for (int v = 0; v < 6; v++) {
            due("number(" + v + ")", m.number(v), v + 20);
            due("variable " + v + " as an expression", m.worth(m.var(v)), anInt(v + 20));
        }
        int[] outside = {-1, 6, MIN, MAX, 7};
        for (int v : outside) {
            due("express of variable " + v, m.express(1, v, 0), BAD);
            due("LET " + v, m.state(LET, v, 0, 0), BAD);
            due("LOOP " + v, m.state(LOOP, v, 0, 1), BAD);
        }
    }

    // ---- how expressions are made ----

    private static void thirtyExpressions() {
        sentence("Terms: numbered from 0 and made one a call, at most 30");
        Machine m = new Machine();
        for (int e = 0; e < 30; e++) {
            due("expression " + e, m.express(0, e, 0), e);
        }
        due("one more than 30", m.express(0, 30, 0), FULL);
        due("two more than 30", m.express(0, 31, 0), FULL);
        for (int e = 28; e < 30; e++) {
            due("the value of expression " + e, m.worth(e), anInt(e));
        }
        due("no expression 30", m.state(SHOW, 30, 0, 0), BAD);

        sentence("Promise 2: 30 are there: FULL (whatever is asked for)");
        for (int kind = -1; kind <= 13; kind++) {
            due("kind " + kind + " with good parts", m.express(kind, 0, 0), FULL);
            due("kind " + kind + " with bad parts", m.express(kind, -1, 30), FULL);
        }
        for (int count = 28; count <= 30; count++) {
            int there = count;
            noChange("refusing with " + there, n -> fill(n, there), n -> {
                due("a bad kind with " + there, n.express(13, 0, 0), there == 30 ? FULL : BAD);
                due("a bad part with " + there, n.express(9, there, 0), there == 30 ? FULL : BAD);
                due("a heavy one with " + there, n.express(9, 6, 0), FULL);
            });
        }
    }

    private static void theLastAsHeavyAsCanBe() {
        sentence("Terms: at most 30, each with a weight of at most 7 (both at once)");
        for (int kind : TWO_PARTS) {
            Machine m = new Machine();
            int zero = m.num(0);
            int one = m.num(1);
            int sum = m.made(2, zero, one);
            int table = m.made(7, one, m.fresh());
            for (int e = 5; e < 29; e++) {
                m.num(e);
            }
            due("the thirtieth, of kind " + kind, m.express(kind, kind == 10 ? table : sum, sum), 29);
            long[] want = {anInt(2), anInt(0), anInt(1), NOTHING, anInt(1), anInt(1), anInt(1), 0, NOTHING};
            due("its value", m.worth(29), want[kind - 2]);
            due("a thirty-first", m.express(kind, sum, sum), FULL);
            due("the one before it", m.worth(28), anInt(28));
        }
        for (int kind : ONE_PART) {
            Machine m = new Machine();
            int six = m.heavy(6);
            for (int e = 6; e < 29; e++) {
                m.num(e);
            }
            due("the thirtieth, of kind " + kind, m.express(kind, six, 0), 29);
            due("its value", m.worth(29), kind == 9 ? anInt(1) : FAILS);
        }
    }

    // Expression 6 is as heavy as can be.
    private static void fill(Machine m, int count) {
        m.heavy(7);
        for (int e = 7; e < count; e++) {
            m.num(e);
        }
        m.shows(6, 1);
    }

    private static void kindsFromZeroToTwelve() {
        sentence("Promise 2: kind outside 0..12: BAD");
        Machine m = new Machine();
        int[] outside = {-1, 13, MIN, MAX, 14, -2, 16, 256};
        for (int kind : outside) {
            due("kind " + kind + " as the first", m.express(kind, 0, 0), BAD);
        }
        due("kind 0", m.express(0, 0, 0), 0);
        for (int kind : outside) {
            due("kind " + kind, m.express(kind, 0, 0), BAD);
        }
        due("kind 1", m.express(1, 0, 0), 1);
        due("kind 11", m.express(11, 0, 0), 2);
        due("kind 12", m.express(12, 2, 0), 3);
        for (int kind : outside) {
            noChange("kind " + kind, ExpressionBoundaryTest::someOfEverything,
                n -> due("kind " + kind, n.express(kind, 0, 0), BAD));
        }
    }

    // A run that left a table, an int and an output, and statements that can be run again.
    private static void someOfEverything(Machine m) {
        int table = m.var(0);
        m.let(0, m.fresh());
        m.put(table, m.num(1), m.num(5));
        m.put(table, m.num(0), m.fresh());
        m.let(1, m.entry(table, m.num(1)));
        m.let(2, table);
        m.show(table);
        m.show(m.made(3, m.var(1), m.num(7)));
        m.ends("some of everything");
    }

    private static void variableOfKindOne() {
        sentence("Promise 2: for kind 1 x outside 0..5: BAD");
        Machine m = new Machine();
        int[][] answers = {{-1, BAD}, {0, 0}, {1, 1}, {4, 2}, {5, 3}, {6, BAD}, {7, BAD}, {MIN, BAD}, {MAX, BAD}};
        for (int[] it : answers) {
            due("kind 1 of " + it[0], m.express(1, it[0], -1), it[1]);
        }
        int[] outside = {-1, 6};
        for (int v : outside) {
            noChange("kind 1 of " + v, ExpressionBoundaryTest::someOfEverything,
                n -> due("kind 1 of " + v, n.express(1, v, 0), BAD));
        }
    }

    private static void partsAreEarlier() {
        sentence("Promise 2: for kinds 2 to 8 and 10 x or y no expression: BAD");
        for (int kind : TWO_PARTS) {
            Machine m = new Machine();
            due("no expressions yet, kind " + kind, m.express(kind, 0, 0), BAD);
            m.num(1);
            due("y is none, kind " + kind, m.express(kind, 0, 1), BAD);
            due("x is none, kind " + kind, m.express(kind, 1, 0), BAD);
            m.num(2);
            int[] none = {-1, 2, 3, 29, 30, MIN, MAX};
            for (int part : none) {
                due("kind " + kind + " x " + part, m.express(kind, part, 0), BAD);
                due("kind " + kind + " y " + part, m.express(kind, 0, part), BAD);
                due("kind " + kind + " both " + part, m.express(kind, part, part), BAD);
            }
            due("kind " + kind + " first and last", m.express(kind, 0, 1), 2);
            due("kind " + kind + " last and first", m.express(kind, 1, 0), 3);
        }
        sentence("Promise 2: for 9 and 12 x no expression: BAD");
        for (int kind : ONE_PART) {
            Machine m = new Machine();
            due("no expressions yet, kind " + kind, m.express(kind, 0, 0), BAD);
            m.num(1);
            m.num(2);
            int[] none = {-1, 2, 3, 29, 30, MIN, MAX};
            for (int part : none) {
                due("kind " + kind + " x " + part, m.express(kind, part, 0), BAD);
            }
            due("kind " + kind + " of the first", m.express(kind, 0, 0), 2);
            due("kind " + kind + " of the second", m.express(kind, 1, 0), 3);
            due("kind " + kind + " of the latest", m.express(kind, 3, 0), 4);
        }
    }

    private static void badPartsChangeNothing() {
        sentence("Promise 2: x or y no expression: BAD (and nothing is made)");
        Machine counted = new Machine();
        someOfEverything(counted);
        int count = counted.num(0);
        int[][] parts = {{-1, 0}, {0, -1}, {count, 0}, {0, count}, {-1, count}};
        for (int[] it : parts) {
            for (int kind : TWO_PARTS) {
                String what = "kind " + kind + " of " + it[0] + " and " + it[1];
                noChange(what, ExpressionBoundaryTest::someOfEverything,
                    n -> due(what, n.express(kind, it[0], it[1]), BAD));
            }
            for (int kind : ONE_PART) {
                if (it[0] != 0) {
                    String what = "kind " + kind + " of " + it[0];
                    noChange(what, ExpressionBoundaryTest::someOfEverything,
                        n -> due(what, n.express(kind, it[0], 0), BAD));
                }
            }
        }
    }

    private static void otherOperandsPlayNoPart() {
        sentence("Promise 2: other operands play no part");
        int[] anything = {-1, 0, 6, 13, 29, 30, MIN, MAX};
        Machine m = new Machine();
        int heavy = m.heavy(7);
        int table = m.fresh();
        int next = table + 1;
        for (int y : anything) {
            Machine n = new Machine();
            due("kind 0, x " + y, n.express(0, y, y), 0);
            due("kind 1, y " + y, n.express(1, 5, y), 1);
            due("kind 11, x and y " + y, n.express(11, y, y), 2);
            due("kind 9, y " + y, n.express(9, 0, y), 3);
            due("kind 12, y " + y, n.express(12, 2, y), 4);
            due("the int " + y, n.worth(0), anInt(y));
            due("the table", n.worth(2), aTable(0));
            due("not of the int", n.worth(3), NOTHING);
            due("the count", n.worth(4), anInt(0));
        }
        int[] kinds = {0, 1, 11};
        for (int kind : kinds) {
            due("kind " + kind + ", both name a heavy one", m.express(kind, kind == 1 ? 5 : heavy, heavy), next);
            next++;
        }
        for (int kind : ONE_PART) {
            due("kind " + kind + ", y names a heavy one", m.express(kind, table, heavy), next);
            next++;
        }
    }

    // ---- weight ----

    private static void weightOfTwoParts() {
        sentence("Promise 2: its weight would be above 7: FULL (two parts)");
        for (int kind : TWO_PARTS) {
            Machine m = new Machine();
            m.heavy(7);
            int next = 7;
            for (int x = 1; x <= 7; x++) {
                for (int y = 1; y <= 7; y++) {
                    boolean light = 1 + x + y <= 7;
                    String what = "kind " + kind + " of weights " + x + " and " + y;
                    due(what, m.express(kind, x - 1, y - 1), light ? next : FULL);
                    next += light ? 1 : 0;
                }
            }
            due("they all have numbers", next, 22);
            due("the next number", m.express(0, 0, 0), 22);
        }
    }

    private static void weightOfOnePart() {
        sentence("Promise 2: its weight would be above 7: FULL (one part)");
        for (int kind : ONE_PART) {
            Machine m = new Machine();
            m.heavy(7);
            due("kind " + kind + " of weight 5", m.express(kind, 4, 0), 7);
            due("kind " + kind + " of weight 6", m.express(kind, 5, 0), 8);
            due("kind " + kind + " of weight 7", m.express(kind, 6, 0), FULL);
            due("kind " + kind + " of the 7 just made", m.express(kind, 8, 0), FULL);
            due("kind " + kind + " of the 6 just made", m.express(kind, 7, 0), 9);
        }
    }

    private static void weightIsTheSum() {
        sentence("Terms: The WEIGHT of an expression is 1 more than the sum of the weights of its parts");
        int[] leaves = {0, 1, 11};
        for (int kind : leaves) {
            for (int above : TWO_PARTS) {
                Machine m = new Machine();
                int leaf = m.made(kind, 3, 0);
                int five = m.heavy(5);
                int six = m.made(9, five, 0);
                due("leaf " + kind + " and 5", m.express(above, leaf, five), six + 1);
                due("leaf " + kind + " and 6", m.express(above, leaf, six), FULL);
                due("5 and leaf " + kind, m.express(above, five, leaf), six + 2);
                due("6 and leaf " + kind, m.express(above, six, leaf), FULL);
            }
        }
        for (int kind : TWO_PARTS) {
            Machine m = new Machine();
            int one = m.num(1);
            int three = m.made(kind, one, one);
            int seven = m.made(kind, three, three);
            int five = m.made(kind, three, one);
            int six = m.made(12, five, 0);
            int four = m.made(9, three, 0);
            due("a part that is used twice counts twice", m.express(9, seven, 0), FULL);
            due("kind " + kind + " of 5 and 1", m.express(kind, five, one), four + 1);
            due("kind " + kind + " of 6 and 1", m.express(kind, six, one), FULL);
            due("kind " + kind + " of 4 and 3", m.express(kind, four, three), FULL);
            due("kind 9 of 6", m.express(9, six, 0), four + 2);
        }
    }

    private static void heavyChangesNothing() {
        sentence("Promise 2: its weight would be above 7: FULL (and nothing is made)");
        for (int kind : TWO_PARTS) {
            refusesHeavy(kind, 2, 3);
            refusesHeavy(kind, 5, 0);
            refusesHeavy(kind, 6, 6);
        }
        for (int kind : ONE_PART) {
            refusesHeavy(kind, 6, 0);
        }
    }

    // Expression e has the weight e + 1.
    private static void refusesHeavy(int kind, int x, int y) {
        String what = "kind " + kind + " of " + x + " and " + y;
        noChange(what, m -> {
            m.heavy(7);
            m.let(0, 6);
            m.show(5);
            m.ends("before the heavy one");
        }, m -> due(what, m.express(kind, x, y), FULL));
    }

    private static void badComesBeforeHeavy() {
        sentence("Promise 2: tested in this order: BAD before the weight");
        for (int kind : TWO_PARTS) {
            Machine m = new Machine();
            m.heavy(7);
            int[] none = {-1, 7};
            for (int part : none) {
                due("kind " + kind + ", heavy x, y " + part, m.express(kind, 6, part), BAD);
                due("kind " + kind + ", heavy y, x " + part, m.express(kind, part, 6), BAD);
            }
            due("a bad kind of heavy parts", m.express(13, 6, 6), BAD);
            due("a bad kind of heavy parts", m.express(-1, 6, 6), BAD);
        }
    }

    private static void heavyOnesAreWorkedOut() {
        sentence("Terms: weight 7, in every shape, gives its value");
        Machine m = new Machine();
        int[] n = {m.num(1), m.num(20), m.num(300), m.num(4000)};
        int right = m.made(3, n[3], m.made(3, n[2], m.made(3, n[1], n[0])));
        due("4000 - (300 - (20 - 1))", m.worth(right), anInt(3719));
        int left = m.made(3, m.made(3, m.made(3, n[3], n[2]), n[1]), n[0]);
        due("((4000 - 300) - 20) - 1", m.worth(left), anInt(3679));
        int both = m.made(3, m.made(3, n[3], n[2]), m.made(3, n[1], n[0]));
        due("(4000 - 300) - (20 - 1)", m.worth(both), anInt(3681));
        int middle = m.made(3, n[3], m.made(3, m.made(3, n[2], n[1]), n[0]));
        due("4000 - ((300 - 20) - 1)", m.worth(middle), anInt(3721));
        int other = m.made(3, m.made(3, n[3], m.made(3, n[2], n[1])), n[0]);
        due("(4000 - (300 - 20)) - 1", m.worth(other), anInt(3719));
        int chain = m.heavy(7);
        due("six times not", m.worth(chain), anInt(1));
        due("five times not", m.worth(chain - 1), NOTHING);
    }

    // ---- how expressions are worked out ----

    private static void partsAreWorkedOutAnew() {
        sentence("Terms: parts are worked out anew each time");
        Machine m = new Machine();
        int fresh = m.fresh();
        int v0 = m.var(0);
        due("one part twice makes two tables", m.worth(m.made(6, fresh, fresh)), NOTHING);
        m.let(0, fresh);
        m.let(1, fresh);
        due("a variable twice has one table", m.worth(m.made(6, v0, v0)), anInt(1));
        due("two LETs make two tables", m.same(0, 1), false);
        due("two tables", m.tables(), 2);
        m.clear();
        int next = m.made(2, m.made(8, v0, m.num(5)), m.num(1));
        m.let(0, next);
        m.let(0, next);
        m.show(next);
        m.ends("one expression three times");
        due("what the variable has now", m.output(0), anInt(8));
    }

    private static void aFailingPartFails() {
        sentence("Terms: if one of them fails so does the whole");
        for (int kind : TWO_PARTS) {
            Machine m = new Machine();
            int fails = m.failing();
            int one = m.num(1);
            int nothing = m.nothing();
            int table = m.fresh();
            int[] good = {one, nothing, table};
            for (int part : good) {
                due("kind " + kind + ", x fails", m.worth(m.made(kind, fails, part)), FAILS);
                boolean left = kind == 7 && part == nothing || kind == 8 && part != nothing;
                long value = part == one ? anInt(1) : part == table ? aTable(0) : NOTHING;
                due("kind " + kind + ", y fails", m.worth(m.made(kind, part, fails)), left ? value : FAILS);
            }
            due("kind " + kind + ", both fail", m.worth(m.made(kind, fails, fails)), FAILS);
        }
        for (int kind : ONE_PART) {
            Machine m = new Machine();
            int fails = m.failing();
            due("kind " + kind + " of one that fails", m.worth(m.made(kind, fails, 0)), FAILS);
            due("kind " + kind + ", two deep", m.worth(m.made(kind, m.made(kind, fails, 0), 0)), FAILS);
        }
    }

    private static void anyInt() {
        sentence("Kind 0: the int x (any)");
        int[] ints = {MIN, MIN + 1, -65536, -4, -3, -2, -1, 0, 1, 2, 3, 4, 65536, MAX - 1, MAX};
        for (int number : ints) {
            Machine m = new Machine();
            due("the int " + number, m.worth(m.num(number)), anInt(number));
            m.let(3, 0);
            m.ends("the int " + number);
            due("its sort", m.sort(3), 1);
            due("its number", m.number(3), number);
        }
    }

    private static void whatAVariableHas() {
        sentence("Kind 1: what variable x has");
        for (int v = 0; v < 6; v++) {
            Machine m = new Machine();
            int e = m.var(v);
            int other = m.var(v == 5 ? 4 : v + 1);
            due("nothing before a LET", m.worth(e), NOTHING);
            m.let(v, m.num(7));
            due("an int", m.worth(e), anInt(7));
            due("the next one has nothing", m.worth(other), NOTHING);
            m.let(v, m.fresh());
            due("a table", m.worth(e), aTable(0));
            m.let(v, m.nothing());
            due("nothing again", m.worth(e), NOTHING);
        }
    }

    private static void intsOnly() {
        sentence("Kinds 2 to 5: fails if a part is no int");
        for (int kind = 2; kind <= 5; kind++) {
            Machine m = new Machine();
            int zero = m.num(0);
            int nothing = m.nothing();
            int table = m.fresh();
            int[] parts = {zero, nothing, table};
            for (int x : parts) {
                for (int y : parts) {
                    long value = m.worth(m.made(kind, x, y));
                    boolean ints = x == zero && y == zero;
                    long want = !ints ? FAILS : kind == 5 ? NOTHING : anInt(0);
                    due("kind " + kind + " of " + x + " and " + y, value, want);
                }
            }
        }
    }

    private static void lessThan() {
        sentence("Kind 5: the int 1 if x < y, else nothing");
        int[][] pairs = {{-1, 0}, {0, 0}, {1, 0}, {MAX - 1, MAX}, {MAX, MAX}, {MAX, MAX - 1}, {MIN, MIN},
            {MIN + 1, MIN},
            {MIN, MIN + 1}, {MIN, MAX}, {MAX, MIN}, {-1, MAX}, {MAX, -1}, {0, MIN}, {MIN, 0}, {1, MIN}, {MIN, 1},
            {-2, MAX}, {5, 4}, {4, 5}, {5, 5}};
        boolean[] less = {true, false, false, true, false, false, false, false, true, true, false, true, false, false,
            true, false, true, true, false, true, false};
        for (int i = 0; i < pairs.length; i++) {
            Machine m = new Machine();
            long value = m.worth(m.made(5, m.num(pairs[i][0]), m.num(pairs[i][1])));
            due(pairs[i][0] + " < " + pairs[i][1], value, less[i] ? anInt(1) : NOTHING);
        }
    }

    private static void sameValue() {
        sentence("Kind 6: both nothing, equal ints, the same table");
        int[][] ints = {{0, 0}, {0, 1}, {0, -1}, {MAX, MAX}, {MAX, MAX - 1}, {MIN, MIN}, {MIN, MAX}, {-1, -1}, {-1, -2},
            {0, MIN}, {65536, 0}, {1 << 30, 0}};
        for (int[] it : ints) {
            Machine m = new Machine();
            long value = m.worth(m.made(6, m.num(it[0]), m.num(it[1])));
            due(it[0] + " same " + it[1], value, it[0] == it[1] ? anInt(1) : NOTHING);
        }
        Machine m = new Machine();
        int v0 = m.var(0);
        int v1 = m.var(1);
        int v2 = m.var(2);
        int one = m.num(1);
        m.let(0, m.fresh());
        m.let(1, m.fresh());
        m.put(v1, one, v0);
        due("both nothing", m.worth(m.made(6, v2, m.var(3))), anInt(1));
        due("two tables", m.worth(m.made(6, v0, v1)), NOTHING);
        due("one table by two ways", m.worth(m.made(6, v0, m.entry(v1, one))), anInt(1));
        due("one table by one way", m.worth(m.made(6, v1, v1)), anInt(1));
        due("a table and nothing", m.worth(m.made(6, v0, v2)), NOTHING);
        due("nothing and a table", m.worth(m.made(6, v2, v0)), NOTHING);
        for (int number = -1; number <= 2; number++) {
            int e = m.num(number);
            due("a table and " + number, m.worth(m.made(6, v0, e)), NOTHING);
            due(number + " and a table", m.worth(m.made(6, e, v1)), NOTHING);
            due("nothing and " + number, m.worth(m.made(6, v2, e)), NOTHING);
        }
    }

    // Both parts are nothing, 0, a table and one that fails, in this order.
    private static void choices(int kind, long[][] want) {
        Machine m = new Machine();
        int[] parts = {m.nothing(), m.num(0), m.fresh(), m.failing()};
        for (int x = 0; x < parts.length; x++) {
            for (int y = 0; y < parts.length; y++) {
                due("x " + x + " y " + y, m.worth(m.made(kind, parts[x], parts[y])), want[x][y]);
            }
        }
    }

    private static void andOr() {
        long zero = anInt(0);
        long table = aTable(0);
        sentence("Kind 7: nothing if x is nothing (then y is not worked out), else y");
        choices(7, new long[][] {{NOTHING, NOTHING, NOTHING, NOTHING}, {NOTHING, zero, table, FAILS},
            {NOTHING, zero, table, FAILS}, {FAILS, FAILS, FAILS, FAILS}});
        sentence("Kind 8: x if x is not nothing (then y is not worked out), else y");
        choices(8, new long[][] {{NOTHING, zero, table, FAILS}, {zero, zero, zero, zero},
            {table, table, table, table}, {FAILS, FAILS, FAILS, FAILS}});
    }

    private static void andOrInside() {
        sentence("Kinds 7 and 8: y is not worked out, inside another one");
        Machine m = new Machine();
        int nothing = m.nothing();
        int fails = m.failing();
        int one = m.num(1);
        int five = m.num(5);
        due("(nothing and fails) or 5", m.worth(m.made(8, m.made(7, nothing, fails), five)), anInt(5));
        due("1 - (5 or fails)", m.worth(m.made(3, one, m.made(8, five, fails))), anInt(-4));
        due("(5 or fails) - 1", m.worth(m.made(3, m.made(8, five, fails), one)), anInt(4));
        due("5 and (1 or fails)", m.worth(m.made(7, five, m.made(8, one, fails))), anInt(1));
        due("1 or (nothing and fails)", m.worth(m.made(8, one, m.made(7, nothing, fails))), anInt(1));
        due("not (nothing and fails)", m.worth(m.made(9, m.made(7, nothing, fails), 0)), anInt(1));
    }

    private static void notOf() {
        sentence("Kind 9: the int 1 if x is nothing, else nothing");
        Machine m = new Machine();
        due("of nothing", m.worth(m.made(9, m.nothing(), 0)), anInt(1));
        int[] ints = {-1, 0, 1, MIN};
        for (int number : ints) {
            due("of " + number, m.worth(m.made(9, m.num(number), 0)), NOTHING);
        }
        due("of a table without entries", m.worth(m.made(9, m.fresh(), 0)), NOTHING);
        due("of one that fails", m.worth(m.made(9, m.failing(), 0)), FAILS);
    }

    private static void entryOfATable() {
        sentence("Kind 10: the entry of the table x for the int y, nothing if it has none");
        Machine m = new Machine();
        int table = m.var(0);
        m.let(0, m.fresh());
        due("of a table without entries", m.worth(m.entry(table, m.num(5))), NOTHING);
        m.put(table, m.num(5), m.num(50));
        m.put(table, m.num(6), m.fresh());
        int[] keys = {4, 5, 6, 7, MIN, MAX, 0};
        for (int key : keys) {
            long value = key == 5 ? anInt(50) : key == 6 ? aTable(0) : NOTHING;
            due("the entry for " + key, m.worth(m.entry(table, m.num(key))), value);
        }
        sentence("Kind 10: fails if x is no table or y no int");
        m = new Machine();
        int fresh = m.fresh();
        int zero = m.num(0);
        int nothing = m.nothing();
        int[] parts = {fresh, zero, nothing};
        for (int x : parts) {
            for (int y : parts) {
                due("entry " + x + " " + y, m.worth(m.entry(x, y)), x == fresh && y == zero ? NOTHING : FAILS);
            }
        }
    }

    private static void newTable() {
        sentence("Kind 11: a new table without entries");
        Machine m = new Machine();
        int fresh = m.fresh();
        int v0 = m.var(0);
        int one = m.num(1);
        m.loop(1, m.num(5), 3);
        m.let(0, fresh);
        m.show(v0);
        m.put(v0, one, one);
        m.ends("a new table each turn");
        for (int k = 0; k < 5; k++) {
            due("it has no entries at turn " + (k + 1), m.output(k), aTable(0));
        }
        due("the last one got its entry", m.number(0), 1);
        due("only the last one is there", m.tables(), 1);
    }

    private static void countOfATable() {
        sentence("Kind 12: how many entries the table x has");
        for (int count = 0; count <= 6; count++) {
            Machine m = new Machine();
            int table = m.var(0);
            m.let(0, m.fresh());
            for (int key = 0; key < count; key++) {
                m.put(table, m.num(key), m.num(0));
            }
            due(count + " entries", m.worth(m.made(12, table, 0)), anInt(count));
        }
        sentence("Kind 12: fails if x is no table");
        Machine m = new Machine();
        int[] noTables = {m.nothing(), m.num(0), m.num(1), m.num(-1), m.var(5)};
        for (int e : noTables) {
            due("count of expression " + e, m.worth(m.made(12, e, 0)), FAILS);
        }
        due("count of a table", m.worth(m.made(12, m.fresh(), 0)), anInt(0));
    }

    public static void main(String[] args) {
        arithmeticWraps();
        keysAreInts();
        entriesAreNotNothing();
        sixVariables();
        thirtyExpressions();
        theLastAsHeavyAsCanBe();
        kindsFromZeroToTwelve();
        variableOfKindOne();
        partsAreEarlier();
        badPartsChangeNothing();
        otherOperandsPlayNoPart();
        weightOfTwoParts();
        weightOfOnePart();
        weightIsTheSum();
        heavyChangesNothing();
        badComesBeforeHeavy();
        heavyOnesAreWorkedOut();
        partsAreWorkedOutAnew();
        aFailingPartFails();
        anyInt();
        whatAVariableHas();
        intsOnly();
        lessThan();
        sameValue();
        andOr();
        andOrInside();
        notOf();
        entryOfATable();
        newTable();
        countOfATable();
        end();
    }
}
