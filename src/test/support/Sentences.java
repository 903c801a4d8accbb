import java.util.List;
import java.util.function.Consumer;

/*
 * What the boundary tests share: each names the sentence of the document it is about, and a wrong
 * answer is printed behind that sentence.
 */
class Sentences {
    static final int MIN = Integer.MIN_VALUE;
    static final int MAX = Integer.MAX_VALUE;
    static final int BAD = -1;
    static final int FULL = -2;
    static final int UNSOUND = -3;
    static final int NONE = -4;

    static final int LET = 0;
    static final int PUT = 1;
    static final int IF = 2;
    static final int LOOP = 3;
    static final int SHOW = 4;

    static final int[] ONE_PART = {9, 12};
    static final int[] TWO_PARTS = {2, 3, 4, 5, 6, 7, 8, 10};

    // No value of the output: nothing, an int and a table leave 0, 1 and 2 when divided by 4.
    static final long FAILS = 3L;
    static final long NOTHING = 0L;

    private static String sentence = "";
    private static int sentences = 0;
    private static int wrong = 0;

    static void sentence(String words) {
        sentence = words;
        sentences++;
    }

    static void fault(String what) {
        wrong++;
        System.out.println("'" + sentence + "': " + what);
    }

    static void due(String what, long got, long want) {
        if (got != want) {
            fault(what + " answered " + got + ", due is " + want);
        }
    }

    static void due(String what, boolean got, boolean want) {
        if (got != want) {
            fault(what + " answered " + got + ", due is " + want);
        }
    }

    static long anInt(int number) {
        return 4L * number + 1;
    }

    static long aTable(int entries) {
        return 4L * entries + 2;
    }

    // Two objects are made alike and one of them is also refused something: from then on every
    // call must answer the same for both.
    static void noChange(String what, Consumer<Machine> build, Consumer<Machine> refused) {
        Machine plain = new Machine();
        build.accept(plain);
        Machine other = new Machine();
        build.accept(other);
        refused.accept(other);
        List<String> want = plain.everything();
        List<String> got = other.everything();
        for (int i = 0; i < want.size() && i < got.size(); i++) {
            if (!want.get(i).equals(got.get(i))) {
                fault("after " + what + ": " + got.get(i) + ", without it: " + want.get(i));
                return;
            }
        }
        due("after " + what + ", the number of answers", got.size(), want.size());
    }

    static void end() {
        System.out.println(wrong == 0 ? "all " + sentences + " sentences hold" : wrong + " answers are not as due");
        if (wrong != 0) {
            System.exit(1);
        }
    }
}
