import java.util.ArrayList;
import java.util.List;

/*
 * A TableMachine whose calls are counted, since an object is used for at most 512, with short ways
 * to make what must be made and to look at all that can be seen.
 */
final class Machine {
    private static final int MOST_CALLS = 512;

    private final TableMachine machine = new TableMachine();
    private int calls = 0;

    private TableMachine called() {
        calls++;
        if (calls == MOST_CALLS + 1) {
            Sentences.fault("the test itself makes more than " + MOST_CALLS + " calls");
        }
        return machine;
    }

    int callsLeft() {
        return MOST_CALLS - calls;
    }

    // ---- the calls ----

    int express(int kind, int x, int y) {
        return called().express(kind, x, y);
    }

    int state(int op, int x, int y, int z) {
        return called().state(op, x, y, z);
    }

    int retract() {
        return called().retract();
    }

    boolean sound() {
        return called().sound();
    }

    int run() {
        return called().run();
    }

    int sort(int v) {
        return called().sort(v);
    }

    int number(int v) {
        return called().number(v);
    }

    int entrySort(int v, int key) {
        return called().entrySort(v, key);
    }

    int entryNumber(int v, int key) {
        return called().entryNumber(v, key);
    }

    boolean same(int v, int w) {
        return called().same(v, w);
    }

    int shown() {
        return called().shown();
    }

    long output(int k) {
        return called().output(k);
    }

    int tables() {
        return called().tables();
    }

    // ---- expressions that must be made ----

    int made(int kind, int x, int y) {
        int answer = express(kind, x, y);
        if (answer < 0) {
            Sentences.fault("express(" + kind + ", " + x + ", " + y + ") answered " + answer + ", due is a number");
        }
        return answer;
    }

    int num(int number) {
        return made(0, number, 0);
    }

    int var(int v) {
        return made(1, v, 0);
    }

    int fresh() {
        return made(11, 0, 0);
    }

    int entry(int table, int key) {
        return made(10, table, key);
    }

    int nothing() {
        return made(9, num(1), 0);
    }

    int failing() {
        return made(12, num(1), 0);
    }

    // An expression of this weight that gives the int 1 or nothing.
    int heavy(int weight) {
        int e = num(1);
        for (int w = 2; w <= weight; w++) {
            e = made(9, e, 0);
        }
        return e;
    }

    // ---- statements that must be added ----

    void add(int op, int x, int y, int z) {
        int answer = state(op, x, y, z);
        if (answer < 1) {
            String call = "state(" + op + ", " + x + ", " + y + ", " + z + ")";
            Sentences.fault(call + " answered " + answer + ", due is a number of statements");
        }
    }

    void let(int v, int e) {
        add(Sentences.LET, v, e, 0);
    }

    void put(int table, int key, int e) {
        add(Sentences.PUT, table, key, e);
    }

    void when(int e, int n) {
        add(Sentences.IF, e, n, 0);
    }

    void loop(int v, int e, int n) {
        add(Sentences.LOOP, v, e, n);
    }

    void show(int e) {
        add(Sentences.SHOW, e, 0, 0);
    }

    void shows(int e, int times) {
        for (int i = 0; i < times; i++) {
            show(e);
        }
    }

    void clear() {
        for (int left = 15; left > 0 && retract() > 0; left--) {
            continue;
        }
    }

    // ---- running ----

    void ends(String what) {
        Sentences.due(what + ": run()", run(), Sentences.NONE);
    }

    void failsAt(String what, int statement) {
        Sentences.due(what + ": run()", run(), statement);
    }

    // What is shown when the statements are those that are there and then SHOW e.
    long worth(int e) {
        show(e);
        int answer = run();
        int shown = shown();
        long value = answer == Sentences.NONE ? output(shown - 1) : Sentences.FAILS;
        retract();
        return value;
    }

    // ---- all that can be seen ----

    List<String> everything() {
        List<String> answers = looks();
        answers.add("run() " + run());
        answers.addAll(looks());
        int left = 0;
        for (int i = 0; i < 15 && left >= 0; i++) {
            left = retract();
            answers.add("retract() " + left);
        }
        for (int e = 0; e <= 30; e++) {
            int answer = state(Sentences.SHOW, e, 0, 0);
            answers.add("state of SHOW " + e + " " + answer);
            if (answer > 0) {
                answers.add("expression " + e + ": run() " + run() + " shown() " + shown() + " output(0) " + output(0));
                retract();
            }
        }
        answers.add("one more expression " + express(0, 7, 0));
        return answers;
    }

    // What a run left.
    List<String> looks() {
        List<String> answers = new ArrayList<>();
        for (int v = 0; v < 6; v++) {
            answers.add("sort(" + v + ") " + sort(v));
            answers.add("number(" + v + ") " + number(v));
            for (int key = 0; key < 2; key++) {
                answers.add("entrySort(" + v + ", " + key + ") " + entrySort(v, key));
                answers.add("entryNumber(" + v + ", " + key + ") " + entryNumber(v, key));
            }
            for (int w = 0; w < v; w++) {
                answers.add("same(" + v + ", " + w + ") " + same(v, w));
            }
        }
        answers.add("shown() " + shown());
        int[] places = {0, 1, 2, 3, 4, 5, 29, 30};
        for (int k : places) {
            answers.add("output(" + k + ") " + output(k));
        }
        answers.add("tables() " + tables());
        answers.add("sound() " + sound());
        return answers;
    }
}
