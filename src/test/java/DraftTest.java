/** Promises 8 to 13. */
public final class DraftTest {
    private static final int MIN = Integer.MIN_VALUE, MAX = Integer.MAX_VALUE;

    public static void main(String[] args) {
        sources();
        conditionAnswers();
        conditionColumns();
        outputAnswers();
        keyAnswers();
        limits();
        wipes();
        Due.end("DraftTest");
    }

    private static void sources() {
        TableEngine x = new TableEngine();
        Due.is("table -1", x.source(-1), Due.BAD);
        Due.is("table 3", x.source(3), Due.BAD);
        Due.is("table least", x.source(MIN), Due.BAD);
        Due.is("first", x.source(2), 0);
        Due.is("second, the same table", x.source(2), 1);
        Due.is("third", x.source(0), 2);
        Due.is("fourth", x.source(1), Due.FULL);
        Due.is("BAD before FULL", x.source(3), Due.BAD);
        Due.is("three", x.wipe(), 3);
        Due.is("first again", x.source(1), 0);
        x.insert(1, 4, 5, 6, 0);
        x.output(0, 0, 1);
        Due.result("a source is its table", x, 1, 5);
    }

    private static void conditionAnswers() {
        TableEngine x = new TableEngine();
        Due.is("no source", x.condition(0, 0, 0, false, 0), Due.BAD);
        x.source(0);
        x.source(1);
        Due.is("source -1", x.condition(-1, 0, 0, false, 0), Due.BAD);
        Due.is("source 2", x.condition(2, 0, 0, false, 0), Due.BAD);
        Due.is("source greatest", x.condition(MAX, 0, 0, false, 0), Due.BAD);
        Due.is("column -1", x.condition(0, -1, 0, false, 0), Due.BAD);
        Due.is("column 3", x.condition(0, 3, 0, false, 0), Due.BAD);
        Due.is("op -1", x.condition(0, 0, -1, false, 0), Due.BAD);
        Due.is("op 6", x.condition(0, 0, 6, false, 0), Due.BAD);
        for (int op = 0; op < 6; op++) {
            Due.is("second column -1, op " + op, x.condition(0, 0, op, true, -1), Due.BAD);
            Due.is("second column 6, op " + op, x.condition(0, 0, op, true, 6), Due.BAD);
            Due.is("second column least, op " + op, x.condition(0, 0, op, true, MIN), Due.BAD);
        }
        for (int v = 0; v < 6; v++) {
            Due.is("second column " + v, x.condition(0, 0, 0, true, v), v + 1);
        }
        x.wipe();
        x.source(0);
        x.source(1);
        for (int op = 0; op < 6; op++) {
            Due.is("op " + op, x.condition(op % 2, op / 2, op, op > 2, op > 2 ? op : MIN), op + 1);
        }
        Due.is("seventh", x.condition(0, 0, 0, false, 0), Due.FULL);
        Due.is("BAD before FULL", x.condition(0, 0, 0, true, 6), Due.BAD);
        Due.is("BAD before FULL", x.condition(2, 0, 0, false, 0), Due.BAD);
    }

    /** Which column v stands for: of three sources just that one column has the int 5. */
    private static void conditionColumns() {
        for (int v = 0; v < 9; v++) {
            for (int five = 0; five < 9; five++) {
                TableEngine x = new TableEngine();
                for (int t = 0; t < 3; t++) {
                    x.insert(t, five == 3 * t ? 5 : 0, five == 3 * t + 1 ? 5 : 0, five == 3 * t + 2 ? 5 : 0, 0);
                    x.source(t);
                }
                x.output(1, 0, 0);
                x.condition(five / 3, five % 3, 0, true, v);
                Due.result("5 in column " + five + ", compared with " + v, x, 1, v == five ? 1 : 0);
            }
        }
        TableEngine x = new TableEngine();
        x.insert(0, 1, 2, 3, 0);
        x.source(0);
        x.output(1, 0, 0);
        x.condition(0, 0, 2, true, 1);
        x.condition(0, 2, 5, true, 2);
        Due.result("with itself, a column and an int are not the same", x, 1, 1);
        x.condition(0, 2, 0, false, 2);
        Due.result("the int 2 is not column 2", x, 1, 0);
    }

    private static void outputAnswers() {
        TableEngine x = new TableEngine();
        Due.is("no source", x.output(0, 0, 0), Due.BAD);
        Due.is("kind 1 needs none", x.output(1, 0, 0), 0);
        x.source(1);
        Due.is("kind -1", x.output(-1, 0, 0), Due.BAD);
        Due.is("kind 7", x.output(7, 0, 0), Due.BAD);
        for (int kind = 0; kind < 7; kind++) {
            if (kind != 1) {
                Due.is("source -1", x.output(kind, -1, 0), Due.BAD);
                Due.is("source 1", x.output(kind, 1, 0), Due.BAD);
                Due.is("source greatest", x.output(kind, MAX, 0), Due.BAD);
                Due.is("column -1", x.output(kind, 0, -1), Due.BAD);
                Due.is("column 3", x.output(kind, 0, 3), Due.BAD);
            }
        }
        Due.is("kind 1, s and c are no matter", x.output(1, MIN, MAX), 1);
        Due.is("kind 6", x.output(6, 0, 2), 2);
        Due.is("kind 0", x.output(0, 0, 2), 3);
        Due.is("fifth", x.output(0, 0, 0), Due.FULL);
        Due.is("fifth, kind 1", x.output(1, 9, 9), Due.FULL);
        Due.is("BAD before FULL", x.output(0, 1, 0), Due.BAD);
        x.insert(1, 0, 0, 8, 0);
        Due.result("all four", x, 4, 1, 1, 1, 8);
    }

    private static void keyAnswers() {
        TableEngine x = new TableEngine();
        Due.is("no output", x.key(0, false), Due.BAD);
        x.source(0);
        x.output(0, 0, 0);
        x.output(0, 0, 1);
        Due.is("output -1", x.key(-1, false), Due.BAD);
        Due.is("output 2", x.key(2, false), Due.BAD);
        Due.is("output greatest", x.key(MAX, true), Due.BAD);
        Due.is("one", x.key(1, false), 1);
        Due.is("two", x.key(1, true), 2);
        Due.is("three", x.key(0, false), Due.FULL);
        Due.is("BAD before FULL", x.key(2, false), Due.BAD);
    }

    private static void limits() {
        TableEngine x = new TableEngine();
        for (int i = 0; i < 16; i++) {
            x.insert(0, i / 2, 0, 0, 0);
        }
        x.source(0);
        x.output(0, 0, 0);
        Due.is("at first", x.run(), 16);
        Due.is("distinct", x.limit(60, true), true);
        Due.is("distinct", x.run(), 8);
        Due.is("3", x.limit(3, false), true);
        Due.is("3, not distinct", x.run(), 3);
        Due.is("-1", x.limit(-1, true), false);
        Due.is("61", x.limit(61, true), false);
        Due.is("least", x.limit(MIN, true), false);
        Due.result("nothing is changed", x, 1, 0, 0, 1);
        Due.is("0", x.limit(0, false), true);
        Due.is("no row", x.run(), 0);
        Due.is("no row", x.cell(0, 0), Due.NULL);
        Due.is("16", x.limit(16, false), true);
        Due.is("all", x.run(), 16);
        Due.is("5 distinct", x.limit(5, true), true);
        Due.result("5 distinct", x, 1, 0, 1, 2, 3, 4);
    }

    private static void wipes() {
        TableEngine x = new TableEngine();
        x.insert(0, 1, 1, 1, 0);
        x.insert(0, 1, 2, 2, 0);
        Due.is("empty", x.wipe(), 0);
        x.source(0);
        x.source(0);
        x.condition(0, 1, 0, false, 2);
        x.output(0, 0, 1);
        x.output(0, 1, 1);
        x.key(1, true);
        x.limit(1, true);
        Due.result("before", x, 2, 2, 2);
        Due.is("two sources", x.wipe(), 2);
        Due.is("the result stays", x.cell(0, 1), 2);
        Due.is("again", x.wipe(), 0);
        Due.is("no source", x.condition(0, 0, 0, false, 0), Due.BAD);
        Due.is("no output", x.key(0, false), Due.BAD);
        Due.is("nothing to run", x.run(), Due.BAD);
        x.source(0);
        Due.is("no output is left", x.run(), Due.BAD);
        Due.is("outputs begin anew", x.output(0, 0, 0), 0);
        Due.result("no condition, key, limit or distinct is left", x, 1, 1, 1);
        Due.is("conditions begin anew", x.condition(0, 0, 5, false, 0), 1);
        Due.is("keys begin anew", x.key(0, false), 1);
        Due.is("the rows stay", x.rows(0), 2);
    }
}
