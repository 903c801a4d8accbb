/*
 * No call may throw or fail to end, for any arguments in any state (LANGUAGE.md, rule 7). So neither
 * may one after the 512th, where the document leaves only the answers free. No answer is looked at
 * here, but for counting which states the made-up calls come to.
 */
public final class AnyCallTest {
    private static final int[] EDGES = {Integer.MIN_VALUE, Integer.MIN_VALUE + 1, -2, -1, 0, 1, 2, 4, 5, 6, 7, 11, 12,
        13, 14, 15, 29, 30, 31, 1 << 16, Integer.MAX_VALUE - 1, Integer.MAX_VALUE};
    private static final int OBJECTS = 300;
    private static final int CALLS = 5000;
    private static final int FREE = 512;
    private static final long MOST_MILLIS = 120000;

    private static final int EXPRESS = 0;
    private static final int STATE = 1;
    private static final int RETRACT = 2;
    private static final int SOUND = 3;
    private static final int RUN = 4;
    private static final int METHODS = 13;

    private static int wrong = 0;
    private static volatile String latest = "none";
    private static volatile boolean finished = false;

    private static int fullRuns = 0;
    private static int failedRuns = 0;
    private static int unsoundRuns = 0;

    private final TableMachine machine = new TableMachine();
    private int calls = 0;
    private long mix = 1;

    // ---- one call ----

    private long call(int method, int w, int x, int y, int z) {
        calls++;
        latest = "call " + calls + ", method " + method + " with " + w + ", " + x + ", " + y + ", " + z;
        try {
            return answer(method, w, x, y, z);
        } catch (Throwable thrown) {
            wrong++;
            System.out.println(latest + " threw " + thrown);
            return 0;
        }
    }

    private long answer(int method, int w, int x, int y, int z) {
        return switch (method) {
            case EXPRESS -> machine.express(w, x, y);
            case STATE -> machine.state(w, x, y, z);
            case RETRACT -> machine.retract();
            case SOUND -> machine.sound() ? 1 : 0;
            case RUN -> machine.run();
            case 5 -> machine.sort(w);
            case 6 -> machine.number(w);
            case 7 -> machine.entrySort(w, x);
            case 8 -> machine.entryNumber(w, x);
            case 9 -> machine.same(w, x) ? 1 : 0;
            case 10 -> machine.shown();
            case 11 -> machine.output(w);
            default -> machine.tables();
        };
    }

    // ---- every method with every edge ----

    private void everyEdge() {
        for (int w : EDGES) {
            for (int method = 5; method < METHODS; method++) {
                for (int x : EDGES) {
                    call(method, w, x, 0, 0);
                }
            }
            for (int x : EDGES) {
                for (int y : EDGES) {
                    call(EXPRESS, w, x, y, 0);
                }
            }
        }
        for (int w : EDGES) {
            for (int x : EDGES) {
                for (int y : EDGES) {
                    everyLastOperand(w, x, y);
                }
            }
        }
    }

    private void everyLastOperand(int w, int x, int y) {
        for (int z : EDGES) {
            if (call(STATE, w, x, y, z) > 0) {
                call(SOUND, 0, 0, 0, 0);
                call(RUN, 0, 0, 0, 0);
                call(RETRACT, 0, 0, 0, 0);
            }
        }
    }

    // A new object, one with some expressions, one with statements, and one with all it can have.
    private static void edgesInFewStates() {
        for (int expressions = 0; expressions <= 30; expressions += 10) {
            for (int statements = 0; statements <= 14; statements += 7) {
                AnyCallTest it = new AnyCallTest();
                for (int e = 0; e < expressions; e++) {
                    it.call(EXPRESS, e % 3 == 0 ? 11 : e % 3 - 1, e % 6, 0, 0);
                }
                for (int s = 0; s < statements; s++) {
                    it.call(STATE, s % 2 == 0 ? 0 : 1, s % 6, s % 2 == 0 ? 0 : 1, s % 3);
                }
                it.call(RUN, 0, 0, 0, 0);
                it.everyEdge();
            }
        }
    }

    // ---- calls by a fixed rule ----

    private int below(int bound) {
        mix = mix * 6364136223846793005L + 1442695040888963407L;
        return (int) ((mix >>> 33) % bound);
    }

    private int number() {
        return below(10) == 0 ? EDGES[below(EDGES.length)] : below(30);
    }

    private int small(int bound) {
        return below(20) == 0 ? EDGES[below(EDGES.length)] : below(bound);
    }

    private void likelyExpression() {
        int kind = calls < 20 ? below(2) * 11 : small(13);
        call(EXPRESS, kind, kind == 1 ? small(6) : number(), number(), 0);
    }

    private void likelyStatement() {
        int op = small(5);
        int first = op == 0 || op == 3 ? small(6) : number();
        int second = op == 2 ? 1 + small(3) : number();
        call(STATE, op, first, second, op == 3 ? 1 + small(5) : number());
    }

    private void oneRun() {
        long answer = call(RUN, 0, 0, 0, 0);
        if (calls <= FREE) {
            return;
        }
        if (answer == TableMachine.UNSOUND) {
            unsoundRuns++;
        } else if (answer == TableMachine.NONE) {
            fullRuns++;
        } else {
            failedRuns++;
        }
    }

    private void live(int object) {
        mix = 7919L * object + 3;
        while (calls < CALLS) {
            int which = below(100);
            if (which < 10) {
                likelyExpression();
            } else if (which < 45) {
                likelyStatement();
            } else if (which < 65) {
                oneRun();
            } else if (which < 80) {
                call(RETRACT, 0, 0, 0, 0);
            } else {
                call(3 + below(METHODS - 3), number(), number(), 0, 0);
            }
        }
    }

    // The same run far more often than an object that lost something each time could bear.
    private void manyRuns(int[][] expressions, int[][] statements) {
        for (int[] it : expressions) {
            call(EXPRESS, it[0], it[1], it[2], 0);
        }
        for (int[] it : statements) {
            call(STATE, it[0], it[1], it[2], it[3]);
        }
        while (calls < 20000) {
            oneRun();
            call(METHODS - 1, 0, 0, 0, 0);
        }
    }

    // The first one ends with the ninth table inside a LOOP of a LOOP, the second one shows 250
    // values, the third one would have three LOOPs open at once.
    private static void manyHeavyRuns() {
        int[][] expressions = {{1, 0, 0}, {11, 0, 0}, {0, 5, 0}, {1, 1, 0}, {1, 2, 0}, {2, 3, 4}, {10, 0, 5}};
        int[][] crowding = {{0, 0, 1, 0}, {0, 3, 0, 0}, {3, 1, 2, 4}, {3, 2, 2, 3}, {4, 1, 0, 0}, {1, 0, 5, 1},
            {0, 0, 6, 0}};
        new AnyCallTest().manyRuns(expressions, crowding);
        int[] outer = {3, 1, 2, 6};
        int[] inner = {3, 2, 2, 5};
        int[] show = {4, 5, 0, 0};
        int[][] showing = {outer, inner, show, show, show, show, show, outer, inner, show, show, show, show, show};
        new AnyCallTest().manyRuns(expressions, showing);
        int[][] nesting = {{3, 1, 2, 3}, {3, 2, 2, 2}, {3, 3, 2, 1}, show};
        new AnyCallTest().manyRuns(expressions, nesting);
    }

    private static void reached(String what, int times) {
        if (times < 1000) {
            wrong++;
            System.out.println("the made-up calls after the " + FREE + "th hardly reach " + what + ": " + times);
        }
    }

    private static void all() {
        edgesInFewStates();
        for (int object = 0; object < OBJECTS; object++) {
            new AnyCallTest().live(object);
        }
        reached("runs that end", fullRuns);
        reached("runs that fail", failedRuns);
        reached("unsound runs", unsoundRuns);
        manyHeavyRuns();
        finished = true;
    }

    public static void main(String[] args) throws InterruptedException {
        Thread calling = new Thread(AnyCallTest::all);
        calling.setDaemon(true);
        calling.start();
        calling.join(MOST_MILLIS);
        if (!finished) {
            wrong++;
            System.out.println("this does not end: " + latest);
        }
        System.out.println(wrong == 0 ? "every call ends and none throws" : wrong + " calls or reaches are wrong");
        if (wrong != 0) {
            System.exit(1);
        }
    }
}
