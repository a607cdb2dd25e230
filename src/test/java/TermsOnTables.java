/** What the terms say of tables, constraints, statements, and the order of tests. */
final class TermsOnTables {
    private static final int MIN = Made.MIN, MAX = Made.MAX;
    private static final long N = Made.N;

    private TermsOnTables() {
    }

    static void all(Sentences terms) {
        terms.say("TABLES 0..2 have the columns 0, 1, 2", TermsOnTables::nineColumns);
        terms.say("and at most 16 ROWS,", TermsOnTables::sixteenRows);
        terms.say("in the order in which they were inserted;", TermsOnTables::orderOfInsertion);
        terms.say("a row has in each column an int or NULL.", TermsOnTables::intOrNull);
        terms.say("A column may be UNIQUE (no two rows have the same int there),", TermsOnTables::unique);
        terms.say("REQUIRED (no NULL),", TermsOnTables::required);
        terms.say("and a REFERENCE to another column, of any table, that is UNIQUE: every int in it is there in some "
            + "row;", TermsOnTables::reference);
        terms.say("A column may be UNIQUE (no two rows have the same int there), REQUIRED (no NULL), and a REFERENCE",
            TermsOnTables::allThree);
        terms.say("such a row is one that it REFERS to.", TermsOnTables::refersTo);
        terms.say("A REFERENCE has an action: 0 refuse, 1 cascade, 2 clear.", TermsOnTables::actions);
        String statements = "STATEMENTS insert, erase and change answer VIOLATED, and change nothing, "
            + "if a constraint would be broken.";
        terms.say(statements, TermsOnTables::violatedInsert);
        terms.say(statements, TermsOnTables::violatedErase);
        terms.say(statements, TermsOnTables::violatedChange);
        String order = "Calls make their tests in the order in which they are named.";
        terms.say(order, TermsOnTables::orderInInsert);
        terms.say(order, TermsOnTables::orderInConstrain);
        terms.say(order, TermsOnTables::orderInStatements);
        terms.say(order, TermsOnTables::orderInTheDraft);
        terms.say(order, TermsOnTables::orderInRun);
    }

    private static void nineColumns() {
        TableEngine x = new TableEngine();
        for (int t = 0; t < 3; t++) {
            x.insert(t, 10 * t, 10 * t + 1, 10 * t + 2, 0);
        }
        for (int column = 0; column < 9; column++) {
            int t = column / 3;
            Due.is("column " + column, x.value(t, 0, column % 3), 10 * t + column % 3);
        }
        for (int v : Made.OUTSIDE) {
            Due.is("rows of table " + v, x.rows(v), Due.BAD);
            Due.is("value in table " + v, x.value(v, 0, 0), N);
            Due.is("value in column " + v, x.value(0, 0, v), N);
            Due.is("insert into table " + v, x.insert(v, 1, 1, 1, 0), Due.BAD);
        }
        Due.is("all tables", Made.told(x), "0 1 2 | || 10 11 12 | || 20 21 22 | || ");
    }

    private static void sixteenRows() {
        TableEngine x = new TableEngine();
        for (int t = 0; t < 3; t++) {
            for (int i = 1; i <= 16; i++) {
                Due.is("row " + i + " of table " + t, x.insert(t, i, t, -i, 0), i);
            }
        }
        for (int t = 0; t < 3; t++) {
            Due.is("row 17 of table " + t, x.insert(t, 17, 17, 17, 0), Due.FULL);
            Due.is("rows of table " + t, x.rows(t), 16);
            Due.is("the first of table " + t, x.value(t, 0, 0), 1);
            Due.is("the last of table " + t, x.value(t, 15, 2), -16);
            Due.is("none behind it in table " + t, x.value(t, 16, 0), N);
        }
    }

    private static void orderOfInsertion() {
        TableEngine x = Made.rows(1, 16);
        Due.is("the first", Made.eraseWhere(x, 1, 0, 0), 1);
        Due.is("one in the middle", Made.eraseWhere(x, 1, 0, 7), 1);
        Due.is("the last", Made.eraseWhere(x, 1, 0, 15), 1);
        int[] order = {1, 2, 3, 4, 5, 6, 8, 9, 10, 11, 12, 13, 14, 7, 0, -15};
        for (int i = 13; i < 16; i++) {
            Due.is("a new one stands behind", x.insert(1, order[i], 0, 0, 0), i + 1);
        }
        for (int i = 0; i < 16; i++) {
            Due.is("row " + i, x.value(1, i, 0), order[i]);
        }
        Due.is("full again", x.insert(1, 0, 0, 0, 0), Due.FULL);
    }

    private static void intOrNull() {
        int[] ints = {MIN, MIN + 1, -1, 0, 1, MAX - 1, MAX};
        for (int v : ints) {
            TableEngine x = new TableEngine();
            for (int c = 0; c < 3; c++) {
                x.insert(c, v, v, v, 1 << c);
                for (int other = 0; other < 3; other++) {
                    Due.is(v + " in column " + other + ", NULL in " + c, x.value(c, 0, other), other == c ? N : v);
                }
            }
        }
    }

    private static void unique() {
        for (int column = 0; column < 9; column++) {
            TableEngine x = new TableEngine();
            Made.unique(x, column);
            int t = column / 3;
            int others = 7 - (1 << column % 3);
            int[] ints = {MIN, MAX, 0, -1, 1};
            for (int v : ints) {
                Due.is("the first " + v, x.insert(t, v, v, v, others) > 0, true);
            }
            for (int v : ints) {
                Due.is("a second " + v, x.insert(t, v, v, v, others), Due.VIOLATED);
            }
            Due.is("NULL", x.insert(t, 0, 0, 0, 7), 6);
            Due.is("NULL again, which is no int", x.insert(t, 0, 0, 0, 7), 7);
            Made.put(x, column, 21, 22, 23, 24, 25, 26, 27, 28);
            Due.is("the same as the first of 15", x.insert(t, MIN, MIN, MIN, 0), Due.VIOLATED);
            Due.is("the same as the last of 15", x.insert(t, 28, 28, 28, 0), Due.VIOLATED);
            Due.is("another one", x.insert(t, 29, 29, 29, 0), 16);
        }
    }

    private static void required() {
        for (int column = 0; column < 9; column++) {
            TableEngine x = new TableEngine();
            Made.required(x, column);
            int bit = 1 << column % 3;
            for (int nulls = 0; nulls < 8; nulls++) {
                int answer = x.insert(column / 3, 0, 0, 0, nulls);
                Due.is("REQUIRED " + column + ", nulls " + nulls, answer == Due.VIOLATED, (nulls & bit) != 0);
            }
            Due.is("those that fit, all the same", x.rows(column / 3), 4);
        }
    }

    private static void reference() {
        for (int from = 0; from < 9; from++) {
            int to = (from + 4) % 9;
            TableEngine x = new TableEngine();
            Made.refer(x, from, 0, to);
            int justFrom = 7 - (1 << from % 3);
            Due.is("no row is there to refer to", x.insert(from / 3, 5, 5, 5, justFrom), Due.VIOLATED);
            Due.is("NULL is no int", x.insert(from / 3, 5, 5, 5, 7), 1);
            x.insert(to / 3, 5, 5, 5, 1 << to % 3);
            Due.is("5 is there, but beside the column", x.insert(from / 3, 5, 5, 5, justFrom), Due.VIOLATED);
            Made.put(x, to, MIN, 5, MAX);
            Due.is("the row in the middle", x.insert(from / 3, 5, 5, 5, justFrom) > 0, true);
            Due.is("the same one again", x.insert(from / 3, 5, 5, 5, justFrom) > 0, true);
            Due.is("the first", x.insert(from / 3, MIN, MIN, MIN, justFrom) > 0, true);
            Due.is("the last", x.insert(from / 3, MAX, MAX, MAX, justFrom) > 0, true);
            Due.is("between", x.insert(from / 3, 6, 6, 6, justFrom), Due.VIOLATED);
        }
    }

    private static void allThree() {
        TableEngine x = Made.keyed(2);
        Made.unique(x, 4);
        Made.required(x, 4);
        Made.refer(x, 4, 1, 0);
        Due.is("it fits", x.insert(1, 0, 1, 0, 0), 1);
        Due.is("not UNIQUE", x.insert(1, 0, 1, 0, 0), Due.VIOLATED);
        Due.is("not REQUIRED", x.insert(1, 0, 1, 0, 2), Due.VIOLATED);
        Due.is("not there", x.insert(1, 0, 3, 0, 0), Due.VIOLATED);
        Due.is("all again", x.insert(1, 0, 2, 0, 0), 2);
    }

    private static void refersTo() {
        TableEngine x = new TableEngine();
        Made.refer(x, 5, 0, 1);
        x.insert(0, 1, 2, 3, 0);
        x.insert(0, 2, 1, 3, 0);
        x.insert(0, 1, 7, 1, 0);
        x.insert(1, 2, 2, 1, 0);
        Due.is("1 just in other columns", Made.eraseWhere(x, 0, 1, 7), 1);
        Due.is("2 just in columns that don't refer", Made.eraseWhere(x, 0, 1, 2), 1);
        Due.is("the row that is referred to", Made.eraseWhere(x, 0, 1, 1), Due.VIOLATED);
        Due.is("rows", Made.told(x), "2 1 3 | || 2 2 1 | || || ");
    }

    private static void actions() {
        int[] answers = {Due.VIOLATED, 2, 1};
        String[] rows = {"1 NULL NULL | || NULL 1 NULL | || || ", "|| || || ", "|| NULL NULL NULL | || || "};
        for (int action = 0; action < 3; action++) {
            TableEngine x = Made.keyed(1);
            Made.refer(x, 4, action, 0);
            Made.put(x, 4, 1);
            Due.is("action " + action, Made.eraseAll(x, 0), answers[action]);
            Due.is("action " + action, Made.told(x), rows[action]);
        }
    }

    private static void violatedInsert() {
        TableEngine x = Made.keyed(2);
        Made.required(x, 4);
        Made.refer(x, 5, 1, 0);
        x.insert(1, 7, 7, 1, 0);
        String before = Made.told(x);
        Due.is("UNIQUE", x.insert(0, 2, 0, 0, 0), Due.VIOLATED);
        Due.is("REQUIRED", x.insert(1, 7, 7, 1, 2), Due.VIOLATED);
        Due.is("REFERENCE", x.insert(1, 7, 7, 3, 0), Due.VIOLATED);
        Due.is("rows", Made.told(x), before);
        Due.is("the next one takes the place", x.insert(1, 8, 8, 2, 0), 2);
        Due.is("rows", Made.told(x), before.replace("7 7 1 | ", "7 7 1 | 8 8 2 | "));
    }

    private static void violatedErase() {
        // Erasing key 2 would cascade in table 1, clear in table 1, and is refused by table 2 alone.
        TableEngine x = Made.keyed(3);
        Made.refer(x, 3, 1, 0);
        Made.refer(x, 4, 2, 0);
        Made.refer(x, 8, 0, 0);
        x.insert(1, 2, 1, 0, 0);
        x.insert(1, 1, 2, 0, 0);
        Made.put(x, 8, 2);
        String before = Made.told(x);
        Due.is("refused", Made.eraseWhere(x, 0, 0, 2), Due.VIOLATED);
        Due.is("rows", Made.told(x), before);
        Due.is("the draft is as before", x.wipe(), 1);
        Due.is("what refuses", Made.eraseAll(x, 2), 1);
        Due.is("then it is done whole", Made.eraseWhere(x, 0, 0, 2), 2);
        Due.is("rows", Made.told(x), "1 NULL NULL | 3 NULL NULL | || 1 NULL 0 | || || ");
    }

    private static void violatedChange() {
        TableEngine x = Made.rows(0, 5);
        Made.unique(x, 0);
        Made.required(x, 1);
        Made.refer(x, 3, 1, 0);
        Made.refer(x, 2, 2, 0);
        Made.put(x, 3, 3);
        String before = Made.told(x);
        Made.only(x, 0);
        Due.is("UNIQUE", x.change(0, 0, 3), Due.VIOLATED);
        Due.is("REQUIRED", x.change(1, 1, 0), Due.VIOLATED);
        Due.is("REFERENCE", x.change(2, 2, 1), Due.VIOLATED);
        Due.is("what refers to it", x.change(0, 2, 4), Due.VIOLATED);
        Due.is("rows", Made.told(x), before);
    }

    private static void orderInInsert() {
        TableEngine x = Made.rows(0, 16);
        Made.unique(x, 0);
        Due.is("BAD (table), FULL and VIOLATED", x.insert(3, 0, 0, 0, 0), Due.BAD);
        Due.is("BAD (nulls), FULL and VIOLATED", x.insert(0, 0, 0, 0, 8), Due.BAD);
        Due.is("FULL and VIOLATED", x.insert(0, 0, 0, 0, 0), Due.FULL);
        Made.eraseWhere(x, 0, 0, 15);
        Due.is("BAD and VIOLATED", x.insert(0, 0, 0, 0, -1), Due.BAD);
        Due.is("VIOLATED", x.insert(0, 0, 0, 0, 0), Due.VIOLATED);
    }

    private static void orderInConstrain() {
        TableEngine x = new TableEngine();
        Made.unique(x, 0);
        x.insert(0, 1, 1, 1, 0);
        x.insert(0, 2, 1, 0, 4);
        x.insert(1, 9, 9, 9, 0);
        Due.is("BAD (table) and VIOLATED", x.constrain(3, 1, 0, 0, 0), Due.BAD);
        Due.is("BAD (column) and VIOLATED", x.constrain(0, 3, 1, 0, 0), Due.BAD);
        Due.is("BAD (u) and VIOLATED", x.constrain(1, 0, 2, 3, 0), Due.BAD);
        Due.is("BAD (d) and VIOLATED", x.constrain(1, 0, 3, 0, 3), Due.BAD);
        Due.is("BAD (not UNIQUE) and VIOLATED", x.constrain(1, 0, 4, 0, 1), Due.BAD);
        Due.is("VIOLATED", x.constrain(1, 0, 4, 0, 0), Due.VIOLATED);
    }

    private static void orderInStatements() {
        TableEngine x = Made.rows(0, 3);
        Made.unique(x, 0);
        Made.refer(x, 3, 0, 0);
        Made.put(x, 3, 1);
        Made.only(x, 0);
        Due.is("erase: VIOLATED", x.erase(), Due.VIOLATED);
        Due.is("change: VIOLATED", x.change(0, 0, 7), Due.VIOLATED);
        Due.is("change: BAD (column) and VIOLATED", x.change(3, 0, 7), Due.BAD);
        Due.is("change: BAD (how) and VIOLATED", x.change(0, 3, 7), Due.BAD);
        x.source(0);
        Due.is("erase: BAD (two sources) and VIOLATED", x.erase(), Due.BAD);
        Due.is("change: BAD (two sources) and VIOLATED", x.change(0, 0, 7), Due.BAD);
    }

    private static void orderInTheDraft() {
        TableEngine x = new TableEngine();
        for (int i = 0; i < 3; i++) {
            x.source(0);
        }
        for (int i = 0; i < 6; i++) {
            x.condition(0, 0, 0, false, 0);
        }
        for (int i = 0; i < 4; i++) {
            x.output(0, 0, 0);
        }
        for (int i = 0; i < 2; i++) {
            x.key(0, false);
        }
        Due.is("source: BAD and FULL", x.source(3), Due.BAD);
        Due.is("source: FULL", x.source(0), Due.FULL);
        Due.is("condition: BAD (source) and FULL", x.condition(3, 0, 0, false, 0), Due.BAD);
        Due.is("condition: BAD (column) and FULL", x.condition(0, 3, 0, false, 0), Due.BAD);
        Due.is("condition: BAD (op) and FULL", x.condition(0, 0, 6, false, 0), Due.BAD);
        Due.is("condition: BAD (second column) and FULL", x.condition(0, 0, 0, true, 9), Due.BAD);
        Due.is("condition: FULL", x.condition(0, 0, 0, true, 8), Due.FULL);
        Due.is("output: BAD (kind) and FULL", x.output(7, 0, 0), Due.BAD);
        Due.is("output: BAD (source) and FULL", x.output(0, 3, 0), Due.BAD);
        Due.is("output: BAD (column) and FULL", x.output(2, 0, 3), Due.BAD);
        Due.is("output: FULL", x.output(6, 2, 2), Due.FULL);
        Due.is("output: FULL, kind 1", x.output(1, 3, 3), Due.FULL);
        Due.is("key: BAD and FULL", x.key(4, false), Due.BAD);
        Due.is("key: FULL", x.key(3, false), Due.FULL);
    }

    private static void orderInRun() {
        TableEngine x = Made.rows(0, 16);
        x.source(0);
        x.source(0);
        Due.is("BAD (no output), where one would be TOO_MANY", x.run(), Due.BAD);
        x.output(0, 0, 0);
        Due.is("TOO_MANY", x.run(), Due.TOO_MANY);
    }
}
