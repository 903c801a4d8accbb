/*
 * What README.md shows, line by line: the example, and the lines that say what a call answers.
 */
public final class ReadmeTest extends Sentences {

    private static void example() {
        sentence("README: the example");
        TableMachine m = new TableMachine();
        int two = m.express(0, 2, 0);
        int table = m.express(11, 0, 0);
        int v0 = m.express(1, 0, 0);
        int v1 = m.express(1, 1, 0);
        int square = m.express(4, v1, v1);

        due("two", two, 0);
        due("table", table, 1);
        due("v0", v0, 2);
        due("v1", v1, 3);
        due("square", square, 4);

        due("LET", m.state(0, 0, table, 0), 1);
        due("LOOP", m.state(3, 1, two, 2), 2);
        due("PUT", m.state(1, v0, v1, square), 3);
        due("SHOW", m.state(4, square, 0, 0), 4);

        due("sound()", m.sound(), true);
        due("run()", m.run(), TableMachine.NONE);
        due("sort(0)", m.sort(0), 2);
        due("number(0)", m.number(0), 2);
        due("entrySort(0, 2)", m.entrySort(0, 2), 1);
        due("entryNumber(0, 2)", m.entryNumber(0, 2), 4);
        due("shown()", m.shown(), 2);
        due("output(1)", m.output(1), 17L);
        due("tables()", m.tables(), 1);
    }

    private static void refused() {
        sentence("README: a call that can't be met");
        TableMachine m = new TableMachine();
        due("express(1, 6, 0)", m.express(1, 6, 0), TableMachine.BAD);
        due("express(0, 7, 0)", m.express(0, 7, 0), 0);
        due("state(2, 0, 1, 0)", m.state(2, 0, 1, 0), 1);
        due("run()", m.run(), TableMachine.UNSOUND);
        due("retract()", m.retract(), 0);
        due("run()", m.run(), TableMachine.NONE);
    }

    public static void main(String[] args) {
        example();
        refused();
        end();
    }
}
