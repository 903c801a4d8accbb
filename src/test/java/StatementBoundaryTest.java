/*
 * How statements are added and taken away, and when they are sound (promises 3, 4, 5 and 15): for
 * each sentence that names a boundary, the boundary and one step on each side of it.
 */
public final class StatementBoundaryTest extends Sentences {
    // A first and a last expression are enough to stand at both ends.
    private static final int EXPRESSIONS = 3;

    private static Machine withExpressions() {
        Machine m = new Machine();
        for (int e = 0; e < EXPRESSIONS; e++) {
            m.num(e);
        }
        return m;
    }

    // A run that left values and output, and two statements more than it had.
    private static void afterARun(Machine m) {
        int table = m.var(0);
        m.let(0, m.fresh());
        m.put(table, m.num(1), m.num(6));
        m.put(table, m.num(0), table);
        m.let(4, m.num(-1));
        m.show(table);
        m.ends("a run");
        m.show(m.var(4));
        m.let(5, table);
    }

    // ---- promise 3 ----

    private static void fourteenStatements() {
        sentence("Terms: STATEMENTS are added one a call, at most 14");
        Machine m = withExpressions();
        for (int count = 1; count <= 14; count++) {
            due("statement " + count, m.state(SHOW, count % EXPRESSIONS, 0, 0), count);
        }
        due("a fifteenth", m.state(SHOW, 0, 0, 0), FULL);
        due("a fifteenth again", m.state(SHOW, 0, 0, 0), FULL);
        m.ends("14 statements");
        due("all 14 are executed", m.shown(), 14);
        due("the last of them", m.output(13), anInt(14 % EXPRESSIONS));
        due("13 are left", m.retract(), 13);
        due("a fourteenth again", m.state(SHOW, 2, 0, 0), 14);
        due("and no fifteenth", m.state(SHOW, 2, 0, 0), FULL);

        sentence("Terms: STATEMENTS are numbered from 0");
        for (int failing = 0; failing < 14; failing++) {
            Machine n = new Machine();
            int one = n.num(1);
            int fails = n.failing();
            n.shows(one, failing);
            n.show(fails);
            n.shows(one, 13 - failing);
            n.failsAt("the failing one is number " + failing, failing);
            due("those before it are executed", n.shown(), failing);
        }
    }

    private static void fullComesFirst() {
        sentence("Promise 3: tested in this order: 14 are there: FULL");
        Machine m = withExpressions();
        m.shows(0, 13);
        due("a bad op with 13", m.state(5, 0, 0, 0), BAD);
        due("a bad operand with 13", m.state(SHOW, EXPRESSIONS, 0, 0), BAD);
        due("the fourteenth", m.state(SHOW, 0, 0, 0), 14);
        for (int op = -1; op <= 5; op++) {
            due("op " + op + " with 14", m.state(op, 0, 1, 1), FULL);
            due("op " + op + " with 14 and bad operands", m.state(op, -1, -1, -1), FULL);
        }
        noChange("a fifteenth", n -> {
            afterARun(n);
            n.shows(1, 7);
        }, n -> {
            due("SHOW as the fifteenth", n.state(SHOW, 0, 0, 0), FULL);
            due("LET as the fifteenth", n.state(LET, 0, 0, 0), FULL);
            due("LOOP as the fifteenth", n.state(LOOP, 0, 0, 1), FULL);
            due("a bad fifteenth", n.state(5, 0, 0, 0), FULL);
        });
    }

    private static void opsFromZeroToFour() {
        sentence("Promise 3: op outside 0..4: BAD");
        int[] outside = {-1, 5, MIN, MAX, 6, -2};
        Machine m = withExpressions();
        for (int op : outside) {
            due("op " + op, m.state(op, 0, 1, 1), BAD);
            noChange("op " + op, StatementBoundaryTest::afterARun, n -> due("op " + op, n.state(op, 0, 1, 1), BAD));
        }
        for (int op = 0; op <= 4; op++) {
            due("op " + op, m.state(op, 0, 1, 1), op + 1);
        }
    }

    // Whether state takes each of these as one operand, where the other operands are good.
    private static void operand(String what, int op, int place, int[] good, int[] bad) {
        for (int value : bad) {
            Machine m = withExpressions();
            int[] it = {0, 1, 1};
            it[place] = value;
            due(what + " " + value, m.state(op, it[0], it[1], it[2]), BAD);
            due(what + " " + value + ": none was added", m.retract(), BAD);
            noChange(what + " " + value, n -> {
                for (int e = 0; e < EXPRESSIONS; e++) {
                    n.num(e);
                }
                n.show(0);
                n.let(1, 2);
                n.ends("before the refused one");
                n.show(1);
            }, n -> due(what + " " + value, n.state(op, it[0], it[1], it[2]), BAD));
        }
        for (int value : good) {
            Machine m = withExpressions();
            int[] it = {0, 1, 1};
            it[place] = value;
            due(what + " " + value, m.state(op, it[0], it[1], it[2]), 1);
        }
    }

    private static void operandsOfEachOp() {
        int[] variables = {0, 1, 4, 5};
        int[] noVariables = {-1, 6, MIN, MAX};
        int[] expressions = {0, 1, EXPRESSIONS - 1};
        int[] noExpressions = {-1, EXPRESSIONS, EXPRESSIONS + 1, 29, 30, MIN, MAX};
        int[] anything = {-1, 0, 6, 7, EXPRESSIONS, 30, MIN, MAX};
        int[] none = {};
        sentence("Promise 3: LET: x is v, y is e");
        operand("LET x", LET, 0, variables, noVariables);
        operand("LET y", LET, 1, expressions, noExpressions);
        operand("LET z", LET, 2, anything, none);
        sentence("Promise 3: PUT: x, y, z are t, k, e");
        operand("PUT x", PUT, 0, expressions, noExpressions);
        operand("PUT y", PUT, 1, expressions, noExpressions);
        operand("PUT z", PUT, 2, expressions, noExpressions);
        sentence("Promise 3: IF: x is e, y is n");
        operand("IF x", IF, 0, expressions, noExpressions);
        operand("IF z", IF, 2, anything, none);
        sentence("Promise 3: LOOP: x is v, y is e, z is n");
        operand("LOOP x", LOOP, 0, variables, noVariables);
        operand("LOOP y", LOOP, 1, expressions, noExpressions);
        sentence("Promise 3: SHOW: x is e");
        operand("SHOW x", SHOW, 0, expressions, noExpressions);
        operand("SHOW y", SHOW, 1, anything, none);
        operand("SHOW z", SHOW, 2, anything, none);
        sentence("Promise 15: n is from 1 to 6, as in IF; state answers BAD for another n in both");
        int[] counts = {1, 2, 3, 4, 5, 6};
        int[] noCounts = {0, 7, -1, 8, MIN, MAX};
        operand("IF y", IF, 1, counts, noCounts);
        operand("LOOP z", LOOP, 2, counts, noCounts);
    }

    private static void operandsGoWhereTheyShould() {
        sentence("Promise 3: each operand is what the document says it is");
        Machine m = new Machine();
        int table = m.var(3);
        int key = m.num(20);
        int value = m.num(21);
        int fresh = m.fresh();
        m.let(3, fresh);
        m.put(table, key, value);
        m.add(LOOP, 2, m.num(4), 2);
        m.add(IF, m.made(5, m.var(2), m.num(4)), 1, 6);
        m.add(SHOW, m.var(2), 6, 6);
        m.show(value);
        m.ends("one of each");
        due("LET's variable", m.sort(3), 2);
        due("PUT's entry", m.entryNumber(3, 20), 21);
        due("LOOP's variable", m.number(2), 4);
        due("what IF let through, and the last", m.shown(), 4);
        due("the third turn", m.output(2), anInt(3));
        due("after the LOOP", m.output(3), anInt(21));
    }

    private static void expressionsMadeLater() {
        sentence("Promise 3: an operand that is no expression yet: BAD");
        Machine m = withExpressions();
        due("SHOW of the next one", m.state(SHOW, EXPRESSIONS, 0, 0), BAD);
        m.num(8);
        due("SHOW when it is made", m.state(SHOW, EXPRESSIONS, 0, 0), 1);
        due("SHOW of the one after it", m.state(SHOW, EXPRESSIONS + 1, 0, 0), BAD);
        m.ends("SHOW of the latest");
        due("what it gives", m.output(0), anInt(8));
        Machine n = new Machine();
        for (int op = 0; op <= 4; op++) {
            due("op " + op + " without any expression", n.state(op, 0, op == IF ? 1 : 0, op == LOOP ? 1 : 0), BAD);
        }
    }

    // ---- promise 4 ----

    private static void retractDownToNone() {
        sentence("Promise 4: answers the number of statements left, BAD if there was none");
        Machine m = withExpressions();
        due("none yet", m.retract(), BAD);
        due("none yet, again", m.retract(), BAD);
        due("the first statement", m.state(SHOW, 0, 0, 0), 1);
        due("the first is taken", m.retract(), 0);
        due("none any more", m.retract(), BAD);
        m.shows(0, 14);
        for (int left = 13; left >= 0; left--) {
            due("left", m.retract(), left);
        }
        due("none any more", m.retract(), BAD);
        due("the next one is the first", m.state(SHOW, 0, 0, 0), 1);
        noChange("retract with none", n -> {
            afterARun(n);
            n.clear();
        }, n -> due("retract", n.retract(), BAD));
        noChange("retract on a new object", n -> { }, n -> due("retract", n.retract(), BAD));
    }

    private static void retractTakesTheLast() {
        sentence("Promise 4: Takes the last statement away");
        Machine m = withExpressions();
        m.show(0);
        m.show(1);
        m.show(2);
        due("two are left", m.retract(), 2);
        m.ends("without the last");
        due("two are shown", m.shown(), 2);
        due("the second stays", m.output(1), anInt(1));
        due("one is left", m.retract(), 1);
        due("what the run left stays", m.shown(), 2);
        m.show(2);
        m.ends("another second one");
        due("the first stays", m.output(0), anInt(0));
        due("the new second one", m.output(1), anInt(2));
        noChange("a statement that is taken away again", StatementBoundaryTest::afterARun, n -> {
            n.show(0);
            n.retract();
        });
    }

    // ---- promise 5 ----

    private static void namer(Machine m, int op, int n) {
        if (op == IF) {
            m.when(0, n);
        } else {
            m.loop(0, 0, n);
        }
    }

    private static void noneAndPlainOnes() {
        sentence("Promise 5: no statements, and statements that name none, are sound");
        Machine m = withExpressions();
        due("none", m.sound(), true);
        for (int count = 1; count <= 14; count++) {
            m.add(count % 2 == 0 ? SHOW : LET, 0, 0, 0);
            due(count + " plain ones", m.sound(), true);
        }
    }

    private static void allNamedAreThere() {
        sentence("Terms: SOUND iff all that an IF or LOOP names are there");
        int[] namers = {IF, LOOP};
        for (int op : namers) {
            for (int n = 1; n <= 6; n++) {
                Machine m = withExpressions();
                namer(m, op, n);
                for (int there = 0; there <= n + 1; there++) {
                    due("op " + op + " names " + n + ", there are " + there, m.sound(), there >= n);
                    due("run() then", m.run(), there >= n ? NONE : UNSOUND);
                    m.show(0);
                }
                m.clear();
                m.shows(0, 13 - n);
                namer(m, op, n);
                m.shows(0, n - 1);
                due("op " + op + " at the end, one too few of " + n, m.sound(), false);
                m.show(0);
                due("op " + op + " at the end, all " + n + " there", m.sound(), true);
            }
            Machine m = withExpressions();
            m.shows(0, 13);
            namer(m, op, 1);
            due("op " + op + " as the last of 14", m.sound(), false);
            m.retract();
            due("without it", m.sound(), true);
        }
    }

    private static void innerStaysInside() {
        sentence("Terms: an IF or LOOP that another one names itself names only statements that this other one names");
        int[] namers = {IF, LOOP};
        for (int outer : namers) {
            for (int inner : namers) {
                for (int before = 0; before <= 5; before++) {
                    for (int n = 1; n <= 6; n++) {
                        inside(outer, inner, before, n);
                    }
                }
            }
        }
    }

    // The outer one names 6: so many plain ones, the inner one, and what is left.
    private static void inside(int outer, int inner, int before, int n) {
        Machine m = withExpressions();
        namer(m, outer, 6);
        m.shows(0, before);
        namer(m, inner, n);
        m.shows(0, 12 - before);
        String what = outer + " over 6, with " + inner + " over " + n + " after " + before;
        due(what, m.sound(), before + 1 + n <= 6);
    }

    private static void oneAfterTheOther() {
        sentence("Terms: an IF or LOOP that another one does not name is free of it");
        int[] namers = {IF, LOOP};
        for (int first : namers) {
            for (int second : namers) {
                for (int n = 1; n <= 6; n++) {
                    Machine m = withExpressions();
                    namer(m, first, n);
                    m.shows(0, n);
                    namer(m, second, 6);
                    m.shows(0, 6);
                    due(first + " over " + n + ", then " + second + " over 6", m.sound(), true);
                    m.retract();
                    due("one too few for the second", m.sound(), false);
                }
            }
        }
    }

    private static void innerOfInner() {
        sentence("Terms: an inner one of an inner one stays inside both");
        int[] ends = {2, 3, 4};
        for (int end : ends) {
            Machine m = withExpressions();
            m.when(0, 5);
            m.when(0, 3);
            m.when(0, end - 1);
            m.shows(0, 5);
            due("the third ends " + (end - 3) + " behind the second", m.sound(), end <= 3);
        }
    }

    private static void atMostTwoLoops() {
        sentence("Terms: no statement is named by more than two LOOPs");
        for (int loops = 1; loops <= 4; loops++) {
            Machine m = withExpressions();
            for (int n = loops; n >= 1; n--) {
                m.loop(0, 1, n);
            }
            m.show(0);
            due(loops + " LOOPs", m.sound(), loops <= 2);
            due("run() then", m.run(), loops <= 2 ? NONE : UNSOUND);
        }
        // Which of three nested ones are LOOPs: only with all three is the last one named by three.
        for (int which = 0; which < 8; which++) {
            Machine m = withExpressions();
            for (int n = 3; n >= 1; n--) {
                namer(m, (which >> (n - 1) & 1) == 1 ? LOOP : IF, n);
            }
            m.show(0);
            due("LOOPs of three nested ones: " + which, m.sound(), which != 7);
        }
    }

    private static void loopsSideBySide() {
        sentence("Terms: LOOPs that name different statements are not counted together");
        Machine m = withExpressions();
        for (int i = 0; i < 7; i++) {
            m.loop(0, 1, 1);
            m.show(0);
        }
        due("seven, one after the other", m.sound(), true);
        m.clear();
        m.loop(0, 1, 6);
        for (int i = 0; i < 3; i++) {
            m.loop(1, 1, 1);
            m.show(0);
        }
        due("three in one", m.sound(), true);
        m.retract();
        m.retract();
        m.loop(1, 1, 1);
        m.loop(1, 1, 1);
        m.show(0);
        due("the last of them names one that names one more", m.sound(), false);
        m.clear();
        m.loop(0, 1, 5);
        m.loop(1, 1, 1);
        m.show(0);
        m.loop(1, 1, 2);
        m.loop(2, 1, 1);
        m.show(0);
        due("three deep at the end only", m.sound(), false);
        m.clear();
        m.loop(0, 1, 3);
        m.loop(1, 1, 2);
        m.shows(0, 2);
        m.loop(2, 1, 1);
        m.show(0);
        due("the third just behind the two", m.sound(), true);
    }

    private static void manyIfs() {
        sentence("Terms: IFs are not counted among the LOOPs");
        Machine m = withExpressions();
        for (int n = 6; n >= 1; n--) {
            m.when(0, n);
        }
        m.show(0);
        due("six IFs over one statement", m.sound(), true);
        m.ends("six IFs");
        due("it is executed", m.shown(), 1);
    }

    private static void soundChangesNothing() {
        sentence("Promise 5: sound() only answers");
        noChange("sound() of sound ones", StatementBoundaryTest::afterARun, n -> due("sound()", n.sound(), true));
        noChange("sound() of unsound ones", n -> {
            afterARun(n);
            n.when(0, 1);
        }, n -> due("sound()", n.sound(), false));
    }

    public static void main(String[] args) {
        fourteenStatements();
        fullComesFirst();
        opsFromZeroToFour();
        operandsOfEachOp();
        operandsGoWhereTheyShould();
        expressionsMadeLater();
        retractDownToNone();
        retractTakesTheLast();
        noneAndPlainOnes();
        allNamedAreThere();
        innerStaysInside();
        oneAfterTheOther();
        innerOfInner();
        atMostTwoLoops();
        loopsSideBySide();
        manyIfs();
        soundChangesNothing();
        end();
    }
}
