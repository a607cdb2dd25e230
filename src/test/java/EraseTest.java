/** Promise 4. */
public final class EraseTest {
    private static final long N = Due.NULL;

    public static void main(String[] args) {
        needsOneSource();
        erasesWhatHolds();
        cascades();
        cascadesInACircle();
        cascadesAlongALongChain();
        refuses();
        refusalIsTestedAfterCascading();
        clears();
        clearsNotWhereRequired();
        clearsNotWhatIsReferredTo();
        clearedTargetWhoseReferrerIsErased();
        erasedRowIsNotClearedFirst();
        rowThatHoldsIsNotClearedFirst();
        severalColumnsAtOnce();
        violatedChangesNothing();
        everyPairOfColumns();
        everyChainOfColumns();
        fullTables();
        Due.end("EraseTest");
    }

    private static void needsOneSource() {
        TableEngine x = new TableEngine();
        x.insert(0, 1, 1, 1, 0);
        Due.is("no source", x.erase(), Due.BAD);
        x.source(0);
        x.source(0);
        Due.is("two sources", x.erase(), Due.BAD);
        x.source(0);
        Due.is("three sources", x.erase(), Due.BAD);
        Due.is("nothing is erased", x.rows(0), 1);
        x.wipe();
        x.source(0);
        Due.is("one source", x.erase(), 1);
        Due.is("nothing is left", x.erase(), 0);
        Due.is("the draft stays", x.wipe(), 1);
    }

    private static void erasesWhatHolds() {
        TableEngine x = new TableEngine();
        for (int i = 0; i < 6; i++) {
            x.insert(1, i, i % 2, 10 * i, i == 4 ? 1 : 0);
            x.insert(2, i, i, i, 0);
        }
        x.source(1);
        x.condition(0, 1, 0, false, 0);
        x.condition(0, 0, 2, true, 2);
        Due.is("both conditions, NULL is not less", x.erase(), 1);
        Due.table("the order stays", x, 1, 0, 0, 0, 1, 1, 10, 3, 1, 30, N, 0, 40, 5, 1, 50);
        Due.is("the same draft again", x.erase(), 0);
        Due.is("another table", x.rows(2), 6);
        Due.is("a row of the middle went, one is added behind", x.insert(1, 6, 6, 6, 0), 6);
        Due.is("behind", x.value(1, 5, 0), 6);
    }

    private static void cascades() {
        TableEngine x = Made.keyed(3);
        x.constrain(1, 0, 0, 0, 0);
        x.constrain(1, 1, 3, 0, 0);
        x.constrain(2, 2, 3, 1, 0);
        x.insert(1, 11, 1, 0, 0);
        x.insert(1, 12, 2, 0, 0);
        x.insert(1, 13, 2, 0, 0);
        x.insert(1, 14, 2, 0, 2);
        x.insert(2, 0, 0, 13, 0);
        x.insert(2, 1, 0, 11, 0);
        x.insert(2, 2, 0, 12, 0);
        x.insert(2, 3, 0, 14, 0);
        Due.is("one, two of table 1, two of table 2", Made.eraseWhere(x, 0, 0, 2), 5);
        Due.table("left", x, 0, 1, N, N, 3, N, N);
        Due.table("left", x, 1, 11, 1, 0, 14, N, 0);
        Due.table("left", x, 2, 1, 0, 11, 3, 0, 14);
    }

    private static void cascadesInACircle() {
        TableEngine x = Made.keyed(0);
        x.constrain(0, 1, 3, 0, 0);
        x.insert(0, 1, 1, 0, 0);
        x.insert(0, 2, 1, 0, 0);
        x.insert(0, 3, 2, 0, 0);
        x.insert(0, 4, 4, 0, 0);
        x.wipe();
        x.source(0);
        x.condition(0, 0, 0, false, 1);
        x.change(1, 0, 3);
        Due.is("1 to 3, 3 to 2, 2 to 1", Made.eraseWhere(x, 0, 0, 3), 3);
        Due.table("one that refers to itself stays", x, 0, 4, 4, 0);
        Due.is("and can be erased", Made.eraseWhere(x, 0, 0, 4), 1);
    }

    private static void cascadesAlongALongChain() {
        // Every row refers to the next one of the table behind it; the last links stand first.
        TableEngine x = new TableEngine();
        for (int t = 0; t < 3; t++) {
            x.constrain(t, 0, 0, 0, 0);
        }
        for (int i = 15; i >= 0; i--) {
            for (int t = 0; t < 3; t++) {
                x.insert(t, i, t == 2 ? i + 1 : i, 0, t == 2 && i == 15 ? 2 : 0);
            }
        }
        x.constrain(0, 1, 3, 1, 0);
        x.constrain(1, 1, 3, 2, 0);
        x.constrain(2, 1, 3, 0, 0);
        Due.is("the end of the chain takes all", Made.eraseWhere(x, 2, 0, 15), 48);
        for (int t = 0; t < 3; t++) {
            Due.is("no row", x.rows(t), 0);
        }
    }

    private static void refuses() {
        TableEngine x = Made.keyed(2);
        x.constrain(1, 2, 2, 0, 0);
        x.insert(1, 0, 0, 1, 0);
        x.insert(1, 0, 0, 2, 4);
        Due.is("referred to", Made.eraseWhere(x, 0, 0, 1), Due.VIOLATED);
        Due.is("it is there", x.rows(0), 2);
        Due.is("not referred to", Made.eraseWhere(x, 0, 0, 2), 1);
        x.wipe();
        x.source(1);
        Due.is("what refers can be erased", x.erase(), 2);
        Due.is("and then the other", Made.eraseWhere(x, 0, 0, 1), 1);

        x = Made.keyed(0);
        x.constrain(0, 1, 2, 0, 0);
        x.insert(0, 1, 1, 0, 0);
        x.insert(0, 2, 1, 0, 0);
        Due.is("a row that stays refers", Made.eraseWhere(x, 0, 0, 1), Due.VIOLATED);
        x.wipe();
        x.source(0);
        Due.is("both are erased at once", x.erase(), 2);
        x.insert(0, 1, 1, 0, 0);
        Due.is("what refers to itself doesn't stay", x.erase(), 1);
    }

    private static void refusalIsTestedAfterCascading() {
        TableEngine x = Made.keyed(1);
        x.constrain(1, 0, 3, 0, 0);
        x.constrain(1, 1, 2, 0, 0);
        x.insert(1, 1, 1, 0, 0);
        Due.is("the row that would refuse is erased too", Made.eraseWhere(x, 0, 0, 1), 2);

        x = Made.keyed(1);
        x.constrain(1, 0, 0, 0, 0);
        x.constrain(1, 1, 3, 0, 0);
        x.constrain(2, 0, 2, 1, 0);
        x.insert(1, 5, 1, 0, 0);
        x.insert(2, 5, 0, 0, 0);
        Due.is("a cascaded row is referred to", Made.eraseWhere(x, 0, 0, 1), Due.VIOLATED);
        Due.is("rows 0", x.rows(0), 1);
        Due.is("rows 1", x.rows(1), 1);
        Due.is("rows 2", x.rows(2), 1);
    }

    private static void clears() {
        TableEngine x = Made.keyed(3);
        x.constrain(1, 0, 4, 0, 0);
        x.constrain(0, 2, 4, 0, 0);
        x.insert(0, 4, 0, 2, 2);
        x.insert(0, 5, 0, 3, 2);
        x.insert(1, 2, 2, 2, 0);
        x.insert(1, 3, 2, 2, 0);
        x.insert(1, 2, 5, 5, 0);
        Due.is("just one row is erased", Made.eraseWhere(x, 0, 0, 2), 1);
        Due.table("cleared", x, 1, N, 2, 2, 3, 2, 2, N, 5, 5);
        Due.table("cleared in the same table", x, 0, 1, N, N, 3, N, N, 4, N, N, 5, N, 3);
    }

    private static void clearsNotWhereRequired() {
        TableEngine x = Made.keyed(2);
        x.constrain(1, 1, 4, 0, 0);
        x.constrain(1, 1, 1, 0, 0);
        x.insert(1, 0, 1, 0, 0);
        Due.is("REQUIRED", Made.eraseWhere(x, 0, 0, 1), Due.VIOLATED);
        Due.is("not referred to", Made.eraseWhere(x, 0, 0, 2), 1);
        Due.table("as before", x, 1, 0, 1, 0);

        x = Made.keyed(1);
        x.constrain(1, 1, 4, 0, 0);
        x.constrain(1, 1, 1, 0, 0);
        x.constrain(1, 2, 3, 0, 0);
        x.insert(1, 0, 1, 1, 0);
        Due.is("REQUIRED, but the row is erased", Made.eraseWhere(x, 0, 0, 1), 2);
    }

    private static void clearsNotWhatIsReferredTo() {
        for (int kind = 2; kind <= 4; kind++) {
            TableEngine x = Made.keyed(2);
            x.constrain(1, 0, 0, 0, 0);
            x.constrain(1, 0, 4, 0, 0);
            x.constrain(2, 0, kind, 1, 0);
            x.insert(1, 1, 0, 0, 0);
            x.insert(1, 2, 0, 0, 0);
            x.insert(2, 2, 0, 0, 0);
            Due.is("what would be cleared is referred to, kind " + kind, Made.eraseWhere(x, 0, 0, 2), Due.VIOLATED);
            Due.table("as before", x, 1, 1, 0, 0, 2, 0, 0);
            Due.is("it isn't, kind " + kind, Made.eraseWhere(x, 0, 0, 1), 1);
            Due.table("cleared", x, 1, N, 0, 0, 2, 0, 0);
        }
        TableEngine x = Made.keyed(1);
        x.constrain(1, 0, 0, 0, 0);
        x.constrain(1, 0, 4, 0, 0);
        x.constrain(1, 1, 4, 1, 0);
        x.insert(1, 1, 1, 0, 0);
        Due.is("the row itself refers to it", Made.eraseWhere(x, 0, 0, 1), Due.VIOLATED);
    }

    private static void clearedTargetWhoseReferrerIsErased() {
        TableEngine x = Made.keyed(1);
        x.constrain(1, 0, 0, 0, 0);
        x.constrain(1, 0, 4, 0, 0);
        x.constrain(2, 0, 2, 1, 0);
        x.constrain(2, 1, 3, 0, 0);
        x.insert(1, 1, 0, 0, 0);
        x.insert(2, 1, 1, 0, 0);
        Due.is("what refers to the cleared int is erased too", Made.eraseWhere(x, 0, 0, 1), 2);
        Due.table("cleared", x, 1, N, 0, 0);
        Due.is("erased", x.rows(2), 0);
    }

    /** A row that one column would clear and another one erases is erased with the ints that it has. */
    private static void erasedRowIsNotClearedFirst() {
        int[] answers = {Due.VIOLATED, 3, 2};
        for (int action = 0; action <= 2; action++) {
            TableEngine x = Made.keyed(1);
            Made.refer(x, 3, 2, 0);
            Made.required(x, 3);
            Made.refer(x, 4, 1, 0);
            Made.refer(x, 6, action, 3);
            x.insert(1, 1, 1, 0, 0);
            x.insert(2, 1, 5, 5, 0);
            Due.is("referred to with action " + action, Made.eraseWhere(x, 0, 0, 1), answers[action]);
            Due.is("rows of table 1", x.rows(1), action == 0 ? 1 : 0);
            Due.is("rows of table 2", x.rows(2), action == 1 ? 0 : 1);
            Due.is("what referred to it", x.value(2, 0, 0), action == 0 ? 1 : N);
        }
    }

    /** The same for rows that hold themselves and refer to each other. */
    private static void rowThatHoldsIsNotClearedFirst() {
        int[] answers = {Due.VIOLATED, 4, 2};
        for (int action = 0; action <= 2; action++) {
            TableEngine x = new TableEngine();
            x.insert(0, 1, 2, 0, 0);
            x.insert(0, 2, 1, 0, 0);
            x.insert(2, 2, 5, 5, 0);
            x.insert(2, 1, 6, 6, 0);
            Made.refer(x, 1, 2, 0);
            Made.required(x, 1);
            Made.refer(x, 6, action, 1);
            Due.is("referred to with action " + action, Made.eraseAll(x, 0), answers[action]);
            Due.is("rows of table 0", x.rows(0), action == 0 ? 2 : 0);
            Due.is("rows of table 2", x.rows(2), action == 1 ? 0 : 2);
            Due.is("what referred to the first", x.value(2, 0, 0), action == 0 ? 2 : N);
            Due.is("what referred to the second", x.value(2, 1, 0), action == 0 ? 1 : N);
        }
    }

    private static void severalColumnsAtOnce() {
        TableEngine x = Made.keyed(2);
        x.constrain(0, 1, 0, 0, 0);
        x.constrain(1, 0, 4, 0, 0);
        x.constrain(1, 1, 4, 0, 1);
        x.constrain(1, 2, 4, 0, 0);
        x.insert(0, 3, 9, 0, 0);
        x.insert(1, 3, 9, 3, 0);
        x.insert(1, 1, 9, 3, 0);
        Due.is("one", Made.eraseWhere(x, 0, 0, 3), 1);
        Due.table("all of them", x, 1, N, N, N, 1, N, N);
    }

    private static void everyPairOfColumns() {
        int[] answers = {Due.VIOLATED, 2, 1};
        for (int from = 0; from < 9; from++) {
            for (int to = 0; to < 9; to++) {
                for (int kind = 2; from != to && kind <= 4; kind++) {
                    TableEngine x = new TableEngine();
                    Made.refer(x, from, kind - 2, to);
                    Made.put(x, to, 1, 2);
                    Made.put(x, from, 1, 2);
                    x.source(to / 3);
                    x.condition(0, to % 3, 0, false, 2);
                    String what = "column " + from + " to " + to + ", kind " + kind;
                    Due.is(what, x.erase(), answers[kind - 2]);
                    int left = x.rows(from / 3);
                    long last = kind == 2 ? 2 : kind == 3 ? 1 : N;
                    Due.is(what + ": the last row", x.value(from / 3, left - 1, from % 3), last);
                }
            }
        }
    }

    /** What would be cleared, in any column, is referred to from any other one. */
    private static void everyChainOfColumns() {
        for (int i = 0; i < 9 * 9 * 9; i++) {
            int last = i / 81;
            int middle = i / 9 % 9;
            int first = i % 9;
            if (last == middle || middle == first || first == last) {
                continue;
            }
            TableEngine x = new TableEngine();
            Made.refer(x, middle, 2, first);
            Made.refer(x, last, 1, middle);
            Made.put(x, first, 1, 2, 3);
            Made.put(x, middle, 1, 2);
            Made.put(x, last, 2);
            x.source(first / 3);
            x.condition(0, first % 3, 0, false, 2);
            String what = "columns " + last + ", " + middle + ", " + first;
            Due.is(what + ": referred to", x.erase(), Due.VIOLATED);
            x.wipe();
            x.source(first / 3);
            x.condition(0, first % 3, 0, false, 1);
            Due.is(what + ": not referred to", x.erase(), 1);
        }
    }

    private static void fullTables() {
        // Table 0 keys 1 to 16, table 1 refers to them; beside what refers stand the same ints, which must stay.
        TableEngine x = Made.keyed(16);
        x.constrain(1, 0, 4, 0, 0);
        x.constrain(1, 1, 4, 0, 0);
        for (int i = 1; i <= 16; i++) {
            x.insert(1, 17 - i, i, i, 0);
        }
        Due.is("the first key", Made.eraseWhere(x, 0, 0, 1), 1);
        Due.is("the second key", Made.eraseWhere(x, 0, 0, 2), 1);
        for (int i = 1; i <= 16; i++) {
            Due.is("column 0", x.value(1, i - 1, 0), 17 - i <= 2 ? N : 17 - i);
            Due.is("column 1", x.value(1, i - 1, 1), i <= 2 ? N : i);
            Due.is("column 2", x.value(1, i - 1, 2), i);
        }
        // What is cleared stands once more behind the last row of what could refer to it.
        x = Made.keyed(1);
        x.constrain(1, 1, 0, 0, 0);
        x.constrain(1, 1, 4, 0, 0);
        x.constrain(1, 0, 2, 1, 1);
        x.insert(1, 1, 1, 0, 1);
        for (int i = 2; i <= 16; i++) {
            x.insert(1, 0, 0, i, 3);
        }
        Due.is("none refers to what is cleared", Made.eraseWhere(x, 0, 0, 1), 1);
        Due.is("cleared", x.value(1, 0, 1), N);
        // The same for what refers in the last of 16 rows.
        x = Made.keyed(1);
        x.constrain(1, 1, 0, 0, 0);
        x.constrain(1, 1, 4, 0, 0);
        x.constrain(2, 0, 2, 1, 1);
        x.insert(1, 0, 1, 0, 0);
        for (int i = 1; i <= 16; i++) {
            x.insert(2, 1, 0, 0, i == 16 ? 0 : 1);
        }
        Due.is("the last of 16 rows refers", Made.eraseWhere(x, 0, 0, 1), Due.VIOLATED);
        x.wipe();
        x.source(2);
        Due.is("16 rows at once", x.erase(), 16);
        Due.is("then none refers", Made.eraseWhere(x, 0, 0, 1), 1);
    }

    private static void violatedChangesNothing() {
        TableEngine x = Made.keyed(2);
        x.constrain(1, 0, 4, 0, 0);
        x.constrain(1, 1, 3, 0, 0);
        x.constrain(2, 2, 2, 0, 0);
        x.insert(1, 1, 2, 0, 0);
        x.insert(1, 2, 1, 0, 0);
        x.insert(1, 1, 7, 0, 2);
        x.insert(2, 0, 0, 1, 0);
        x.wipe();
        x.source(0);
        x.condition(0, 0, 3, false, 1);
        Due.is("refused by table 2", x.erase(), Due.VIOLATED);
        Due.table("nothing is erased", x, 0, 1, N, N, 2, N, N);
        Due.table("nothing cascaded or cleared", x, 1, 1, 2, 0, 2, 1, 0, 1, N, 0);
        Due.table("nothing in table 2", x, 2, 0, 0, 1);
    }
}
