/** Promises 3 to 5. */
final class PromisesOnStatements {
    private static final int MIN = Made.MIN, MAX = Made.MAX;
    private static final long N = Made.N;

    private PromisesOnStatements() {
    }

    static void insert(Sentences promise) {
        promise.say("A new row with a, b, c, but NULL in column k if bit k of nulls is set.",
            PromisesOnStatements::newRow);
        promise.say("BAD if t is outside", PromisesOnStatements::tableOutside);
        promise.say("or nulls outside 0..7;", PromisesOnStatements::nullsOutside);
        promise.say("FULL for 16 rows;", PromisesOnStatements::full);
        promise.say("VIOLATED", PromisesOnStatements::insertViolated);
        promise.say("(it may refer to itself);", PromisesOnStatements::refersToItself);
        promise.say("else the number of rows.", PromisesOnStatements::numberOfRows);
    }

    static void erase(Sentences promise) {
        promise.say("The rows of the only source that hold are erased,", PromisesOnStatements::rowsThatHold);
        String again = "and with them again and again rows that refer to an erased one with action 1.";
        promise.say(again, PromisesOnStatements::againAndAgain);
        promise.say(again, PromisesOnStatements::roundAndRound);
        promise.say("rows that refer to an erased one", PromisesOnStatements::nullRefersToNone);
        promise.say("BAD unless there is just one source.", PromisesOnStatements::eraseNeedsOneSource);
        String refused = "VIOLATED if a row that isn't erased refers to an erased one with action 0,";
        promise.say(refused, PromisesOnStatements::refused);
        promise.say(refused, PromisesOnStatements::refusedBehindACascade);
        promise.say("or with action 2 and its column is REQUIRED;", PromisesOnStatements::clearedButRequired);
        promise.say("else what rows that aren't erased refer with to erased ones becomes NULL (action 2;",
            PromisesOnStatements::cleared);
        promise.say("else what rows that aren't erased refer with to erased ones becomes NULL (action 2;",
            PromisesOnStatements::clearedInEveryColumn);
        String kept = "VIOLATED if a row that isn't erased refers to what would be cleared).";
        promise.say(kept, PromisesOnStatements::clearedButReferredTo);
        promise.say(kept, PromisesOnStatements::referredToFromEveryColumn);
        promise.say(kept, PromisesOnStatements::referredToFromEveryRow);
        promise.say("Answers how many rows were erased.", PromisesOnStatements::howManyErased);
    }

    static void change(Sentences promise) {
        promise.say("In the rows of the only source that hold column c becomes v (how 0),",
            PromisesOnStatements::becomesV);
        promise.say("NULL (1),", PromisesOnStatements::becomesNull);
        promise.say("or v more where it isn't NULL (2,", PromisesOnStatements::becomesMore);
        promise.say("wrapping),", PromisesOnStatements::wraps);
        promise.say("in all at once.", PromisesOnStatements::allAtOnce);
        promise.say("BAD unless there is just one source,", PromisesOnStatements::changeNeedsOneSource);
        promise.say("c is in 0..2,", PromisesOnStatements::changedColumnOutside);
        promise.say("how in 0..2;", PromisesOnStatements::howOutside);
        promise.say("VIOLATED (of column c,", PromisesOnStatements::changeViolatesTheColumn);
        promise.say("and of what refers to it);", PromisesOnStatements::changeViolatesWhatRefers);
        promise.say("else how many rows hold.", PromisesOnStatements::howManyHold);
    }

    private static void newRow() {
        for (int nulls = 0; nulls < 8; nulls++) {
            for (int t = 0; t < 3; t++) {
                TableEngine x = new TableEngine();
                x.insert(t, MIN, 0, MAX, nulls);
                Due.is("a, nulls " + nulls, x.value(t, 0, 0), (nulls & 1) != 0 ? N : MIN);
                Due.is("b, nulls " + nulls, x.value(t, 0, 1), (nulls & 2) != 0 ? N : 0);
                Due.is("c, nulls " + nulls, x.value(t, 0, 2), (nulls & 4) != 0 ? N : MAX);
            }
        }
    }

    private static void tableOutside() {
        TableEngine x = new TableEngine();
        for (int t : Made.OUTSIDE) {
            Due.is("table " + t, x.insert(t, 1, 1, 1, 0), Due.BAD);
        }
        Due.is("no row", Made.told(x), "|| || || ");
    }

    private static void nullsOutside() {
        TableEngine x = new TableEngine();
        int[] outside = {-1, 8, 9, 15, 16, MIN, MAX, MIN + 7, -8};
        for (int nulls : outside) {
            Due.is("nulls " + nulls, x.insert(1, 1, 1, 1, nulls), Due.BAD);
        }
        Due.is("no row", Made.told(x), "|| || || ");
        Due.is("7 is inside", x.insert(1, 1, 1, 1, 7), 1);
        Due.is("0 is inside", x.insert(1, 1, 1, 1, 0), 2);
    }

    private static void full() {
        for (int t = 0; t < 3; t++) {
            TableEngine x = Made.rows(t, 15);
            Due.is("the 16th", x.insert(t, 5, 5, 5, 0), 16);
            String before = Made.told(x);
            Due.is("a 17th", x.insert(t, 6, 6, 6, 0), Due.FULL);
            Due.is("a 17th again", x.insert(t, 6, 6, 6, 7), Due.FULL);
            Due.is("rows", Made.told(x), before);
            Due.is("another table has room", x.insert((t + 1) % 3, 6, 6, 6, 0), 1);
            Due.is("one goes", Made.eraseWhere(x, t, 0, 7), 1);
            Due.is("then one can come", x.insert(t, 6, 6, 6, 0), 16);
            Due.is("and no other", x.insert(t, 6, 6, 6, 0), Due.FULL);
        }
    }

    private static void insertViolated() {
        for (int c = 0; c < 3; c++) {
            TableEngine x = Made.keyed(1);
            Made.unique(x, 3 + c);
            Made.required(x, 6 + c);
            Made.refer(x, 6 + c, 2, 0);
            x.insert(1, 4, 4, 4, 0);
            Due.is("UNIQUE, column " + c, insertWith(x, 1, c, 4, 5), Due.VIOLATED);
            Due.is("REQUIRED, column " + c, x.insert(2, 1, 1, 1, 1 << c), Due.VIOLATED);
            Due.is("REFERENCE, column " + c, insertWith(x, 2, c, 2, 1), Due.VIOLATED);
            Due.is("rows of table 1", x.rows(1), 1);
            Due.is("rows of table 2", x.rows(2), 0);
            Due.is("all fit", insertWith(x, 2, c, 1, 2), 1);
        }
    }

    /** A row with v in column c and another int in the others. */
    private static int insertWith(TableEngine x, int t, int c, int v, int other) {
        return x.insert(t, c == 0 ? v : other, c == 1 ? v : other, c == 2 ? v : other, 0);
    }

    private static void refersToItself() {
        for (int action = 0; action < 3; action++) {
            TableEngine x = new TableEngine();
            Made.refer(x, 2, action, 0);
            Due.is("to itself", x.insert(0, 4, 0, 4, 0), 1);
            Due.is("to none", x.insert(0, 5, 6, 6, 0), Due.VIOLATED);
            Due.is("to itself, but NULL stands there", x.insert(0, 6, 6, 6, 1), Due.VIOLATED);
            Due.is("to itself, but it isn't UNIQUE", x.insert(0, 4, 0, 4, 0), Due.VIOLATED);
            Due.is("to the one before", x.insert(0, 7, 0, 4, 0), 2);
        }
        TableEngine x = new TableEngine();
        Made.refer(x, 0, 0, 1);
        Made.refer(x, 1, 0, 2);
        Made.refer(x, 2, 0, 0);
        Due.is("all its columns to each other", x.insert(0, 3, 3, 3, 0), 1);
        Due.is("one of them to none", x.insert(0, 4, 4, 5, 0), Due.VIOLATED);
    }

    private static void numberOfRows() {
        TableEngine x = new TableEngine();
        Made.unique(x, 0);
        for (int i = 1; i <= 16; i++) {
            Due.is("row " + i, x.insert(0, i, 0, 0, 0), i);
            if (i < 16) {
                Due.is("VIOLATED, so it isn't counted", x.insert(0, i, 0, 0, 0), Due.VIOLATED);
            }
        }
        Made.only(x, 0);
        x.condition(0, 0, 2, false, 16);
        Due.is("15 of them", x.erase(), 15);
        Due.is("the second", x.insert(0, 1, 0, 0, 0), 2);
    }

    private static void rowsThatHold() {
        TableEngine x = Made.rows(1, 16);
        Made.fill(x, 0, 3);
        Made.only(x, 1);
        x.condition(0, 0, 3, false, 14);
        x.condition(0, 1, 1, false, 3);
        Due.is("two conditions", x.erase(), 14);
        Due.is("rows", Made.told(x), "0 0 0 | 1 1 1 | 2 2 2 | || 3 3 3 | 15 15 15 | || || ");
        Due.is("none holds", x.erase(), 0);
        Due.is("no condition", Made.eraseAll(x, 1), 2);
        Due.is("no row", x.erase(), 0);
        Due.is("another table is as before", x.rows(0), 3);
    }

    private static void againAndAgain() {
        // Row i of each table refers to row i of the next one, row i of the last to row i - 1 of the first.
        TableEngine x = new TableEngine();
        Made.unique(x, 0, 3, 6);
        for (int i = 15; i >= 0; i--) {
            x.insert(0, i, i, 0, 0);
            x.insert(1, i, i, 0, 0);
            x.insert(2, i, i - 1, 0, i == 0 ? 2 : 0);
        }
        Made.refer(x, 1, 1, 3);
        Made.refer(x, 4, 1, 6);
        Made.refer(x, 7, 1, 0);
        x.begin();
        Due.is("from row 0 of the last table", Made.eraseWhere(x, 2, 0, 0), 48);
        Due.is("none is left", Made.told(x), "|| || || ");
        x.end(false);
        Due.is("from row 14 of the first table", Made.eraseWhere(x, 0, 0, 14), 4);
        Due.is("the first", x.rows(0), 14);
        Due.is("the second", x.rows(1), 15);
        Due.is("the third", x.rows(2), 15);
    }

    private static void roundAndRound() {
        TableEngine x = Made.rows(0, 4);
        Made.unique(x, 0);
        Made.only(x, 0);
        Made.where(x, 0, 0, 0);
        x.change(1, 0, 2);
        Made.where(x, 0, 0, 1);
        x.change(1, 0, 0);
        Made.where(x, 0, 0, 2);
        x.change(1, 0, 1);
        Made.refer(x, 1, 1, 0);
        Due.is("0 to 2, 1 to 0, 2 to 1", Made.eraseWhere(x, 0, 0, 1), 3);
        Due.is("3 to itself", Made.told(x), "3 3 3 | || || || ");
        Due.is("it goes too", Made.eraseAll(x, 0), 1);
    }

    private static void nullRefersToNone() {
        for (int action = 0; action < 3; action++) {
            for (int from = 0; from < 9; from++) {
                int to = (from + 3 + action) % 9;
                TableEngine x = new TableEngine();
                Made.refer(x, from, action, to);
                x.insert(from / 3, 0, 0, 0, 7);
                x.insert(to / 3, 5, 5, 5, 1 << to % 3);
                String what = "NULL in columns " + from + " and " + to + ", action " + action;
                Due.is(what, Made.eraseAll(x, to / 3), 1);
                Due.is(what, x.rows(from / 3), 1);
            }
        }
    }

    private static void eraseNeedsOneSource() {
        TableEngine x = Made.rows(0, 2);
        Due.is("none", x.erase(), Due.BAD);
        x.source(0);
        x.source(1);
        Due.is("two", x.erase(), Due.BAD);
        x.source(0);
        Due.is("three", x.erase(), Due.BAD);
        Due.is("nothing was erased", x.rows(0), 2);
        Due.is("the draft stays", x.wipe(), 3);
        x.source(0);
        x.output(0, 0, 0);
        x.key(0, true);
        x.limit(1, true);
        Due.is("one; outputs, keys and LIMIT don't matter", x.erase(), 2);
    }

    private static void refused() {
        TableEngine x = Made.keyed(3);
        Made.refer(x, 8, 0, 0);
        Made.put(x, 8, 2);
        String before = Made.told(x);
        Due.is("a row refers to one of three", Made.eraseAll(x, 0), Due.VIOLATED);
        Due.is("rows", Made.told(x), before);
        Due.is("to another one", Made.eraseWhere(x, 0, 0, 1), 1);
        x = Made.keyed(0);
        Made.refer(x, 1, 0, 0);
        x.insert(0, 1, 1, 0, 0);
        x.insert(0, 2, 1, 0, 0);
        Due.is("the second refers to the first", Made.eraseWhere(x, 0, 0, 1), Due.VIOLATED);
        Due.is("the second is referred to by none", Made.eraseWhere(x, 0, 0, 2), 1);
        Due.is("the first refers to itself, and is erased", Made.eraseWhere(x, 0, 0, 1), 1);
        x.insert(0, 1, 1, 0, 0);
        x.insert(0, 2, 1, 0, 0);
        Due.is("both are erased", Made.eraseAll(x, 0), 2);
    }

    private static void refusedBehindACascade() {
        TableEngine x = Made.keyed(1);
        Made.unique(x, 3);
        Made.refer(x, 4, 1, 0);
        Made.refer(x, 6, 0, 3);
        x.insert(1, 5, 1, 0, 0);
        Made.put(x, 6, 5);
        String before = Made.told(x);
        Due.is("what would go with it is referred to", Made.eraseAll(x, 0), Due.VIOLATED);
        Due.is("rows", Made.told(x), before);
        Made.refer(x, 7, 1, 0);
        Made.only(x, 2);
        x.change(1, 0, 1);
        Due.is("unless the row that refers goes too", Made.eraseAll(x, 0), 3);
    }

    private static void clearedButRequired() {
        TableEngine x = Made.keyed(2);
        Made.refer(x, 5, 2, 0);
        Made.put(x, 5, 2);
        Made.required(x, 5);
        String before = Made.told(x);
        Due.is("REQUIRED", Made.eraseWhere(x, 0, 0, 2), Due.VIOLATED);
        Due.is("rows", Made.told(x), before);
        Due.is("a row that it doesn't refer to", Made.eraseWhere(x, 0, 0, 1), 1);
        Made.refer(x, 3, 1, 0);
        Made.only(x, 1);
        x.change(0, 0, 2);
        Due.is("the row goes itself", Made.eraseAll(x, 0), 2);
        x = Made.keyed(1);
        Made.refer(x, 5, 2, 0);
        Made.put(x, 5, 1);
        Made.required(x, 0);
        Due.is("another column is REQUIRED", Made.eraseAll(x, 0), 1);
    }

    private static void cleared() {
        TableEngine x = Made.keyed(3);
        Made.refer(x, 3, 2, 0);
        Made.refer(x, 5, 2, 0);
        Made.refer(x, 2, 2, 0);
        x.insert(1, 2, 2, 1, 0);
        x.insert(1, 3, 2, 2, 0);
        x.insert(1, 2, 2, 2, 5);
        x.insert(0, 4, 2, 2, 0);
        x.insert(0, 5, 2, 3, 0);
        Due.is("just one is erased", Made.eraseWhere(x, 0, 0, 2), 1);
        Due.is("rows", Made.told(x), "1 NULL NULL | 3 NULL NULL | 4 2 NULL | 5 2 3 | || "
            + "NULL 2 1 | 3 2 NULL | NULL 2 NULL | || || ");
        Due.is("all are erased", Made.eraseAll(x, 0), 4);
        Due.is("rows", Made.told(x), "|| NULL 2 NULL | NULL 2 NULL | NULL 2 NULL | || || ");
    }

    private static void clearedButReferredTo() {
        for (int action = 0; action < 3; action++) {
            TableEngine x = Made.keyed(2);
            Made.unique(x, 3);
            Made.refer(x, 3, 2, 0);
            Made.refer(x, 6, action, 3);
            Made.put(x, 3, 1, 2);
            Made.put(x, 6, 2);
            String before = Made.told(x);
            Due.is("another row refers, action " + action, Made.eraseWhere(x, 0, 0, 2), Due.VIOLATED);
            Due.is("both, action " + action, Made.eraseAll(x, 0), Due.VIOLATED);
            Due.is("rows", Made.told(x), before);
            Due.is("none refers, action " + action, Made.eraseWhere(x, 0, 0, 1), 1);
            Due.is("rows", Made.told(x), "2 NULL NULL | || NULL NULL NULL | 2 NULL NULL | || 2 NULL NULL | || ");
        }
        TableEngine x = Made.keyed(1);
        Made.refer(x, 3, 2, 0);
        Made.refer(x, 4, 2, 3);
        x.insert(1, 1, 1, 0, 0);
        Due.is("the row itself refers", Made.eraseAll(x, 0), Due.VIOLATED);
        x = Made.keyed(1);
        Made.refer(x, 3, 2, 0);
        Made.refer(x, 6, 0, 3);
        Made.refer(x, 7, 1, 0);
        Made.put(x, 3, 1);
        x.insert(2, 1, 1, 0, 0);
        Due.is("what refers is erased", Made.eraseAll(x, 0), 2);
        Due.is("rows", Made.told(x), "|| NULL NULL NULL | || || ");
    }

    private static void clearedInEveryColumn() {
        for (int i = 0; i < 81; i++) {
            int from = i / 9;
            int to = i % 9;
            if (from != to) {
                TableEngine x = new TableEngine();
                Made.refer(x, from, 2, to);
                Made.put(x, to, 1, 2, 3);
                Made.put(x, from, 3, 2, 1);
                int before = x.rows(from / 3);
                String what = "column " + from + " to " + to;
                Due.is(what, Made.eraseWhere(x, to / 3, to % 3, 2), 1);
                int rows = from / 3 == to / 3 ? before - 1 : before;
                Due.is(what + ", rows", x.rows(from / 3), rows);
                Due.is(what + ", 3", x.value(from / 3, rows - 3, from % 3), 3);
                Due.is(what + ", 2", x.value(from / 3, rows - 2, from % 3), N);
                Due.is(what + ", 1", x.value(from / 3, rows - 1, from % 3), 1);
            }
        }
    }

    private static void referredToFromEveryColumn() {
        for (int i = 0; i < 81; i++) {
            int middle = i / 9;
            int last = i % 9;
            int first = (middle + 3) % 9;
            if (last != middle && last != first) {
                TableEngine x = new TableEngine();
                Made.refer(x, middle, 2, first);
                Made.refer(x, last, 1, middle);
                Made.put(x, first, 1, 2);
                Made.put(x, middle, 1, 2);
                Made.put(x, last, 2);
                String before = Made.told(x);
                String what = "columns " + last + ", " + middle + ", " + first;
                Due.is(what, Made.eraseWhere(x, first / 3, first % 3, 2), Due.VIOLATED);
                Due.is(what, Made.told(x), before);
                Due.is(what + ", not referred to", Made.eraseWhere(x, first / 3, first % 3, 1), 1);
            }
        }
    }

    private static void referredToFromEveryRow() {
        for (int i = 0; i < 16; i++) {
            TableEngine x = Made.keyed(1);
            Made.refer(x, 4, 2, 0);
            Made.refer(x, 8, 0, 4);
            Made.put(x, 4, 1);
            for (int row = 0; row < 16; row++) {
                x.insert(2, 1, 1, 1, row == i ? 3 : 4);
            }
            Due.is("row " + i, Made.eraseAll(x, 0), Due.VIOLATED);
            Due.is("the row that refers goes", Made.eraseWhere(x, 2, 2, 1), 1);
            Due.is("1 stands just beside what refers", Made.eraseAll(x, 0), 1);
            Due.is("cleared", x.value(1, 0, 1), N);
        }
    }

    private static void howManyErased() {
        TableEngine x = Made.keyed(16);
        Made.refer(x, 3, 1, 0);
        Made.refer(x, 6, 2, 0);
        for (int i = 1; i <= 16; i++) {
            Made.put(x, 3, i);
            Made.put(x, 6, i);
        }
        Due.is("none holds", Made.eraseWhere(x, 0, 0, 17), 0);
        Due.is("one and one that refers; what is cleared doesn't count", Made.eraseWhere(x, 0, 0, 16), 2);
        Due.is("15 and 15", Made.eraseAll(x, 0), 30);
        Due.is("an empty table", Made.eraseAll(x, 0), 0);
        Due.is("16", Made.eraseAll(x, 2), 16);
    }

    private static void becomesV() {
        int[] ints = {MIN, -1, 0, MAX};
        for (int v : ints) {
            for (int c = 0; c < 3; c++) {
                TableEngine x = new TableEngine();
                x.insert(2, 5, 5, 5, 0);
                x.insert(2, 5, 5, 5, 1 << c);
                x.insert(2, 6, 6, 6, 0);
                Made.where(x, 2, (c + 1) % 3, 5);
                Due.is("two hold", x.change(c, 0, v), 2);
                for (int i = 0; i < 9; i++) {
                    long due = i / 3 == 2 ? 6 : i % 3 == c ? v : 5;
                    Due.is("row " + i / 3 + ", column " + i % 3, x.value(2, i / 3, i % 3), due);
                }
            }
        }
    }

    private static void becomesNull() {
        TableEngine x = Made.rows(0, 3);
        Made.only(x, 0);
        x.condition(0, 0, 2, false, 2);
        Due.is("v doesn't matter", x.change(1, 1, 77), 2);
        Due.is("rows", Made.told(x), "0 NULL 0 | 1 NULL 1 | 2 2 2 | || || || ");
        Due.is("again", x.change(1, 1, MIN), 2);
        Due.is("rows", Made.told(x), "0 NULL 0 | 1 NULL 1 | 2 2 2 | || || || ");
    }

    private static void becomesMore() {
        TableEngine x = Made.rows(0, 3);
        Made.put(x, 1, 5);
        Made.only(x, 0);
        Due.is("NULL holds too", x.change(0, 2, 10), 4);
        Due.is("rows", Made.told(x), "10 0 0 | 11 1 1 | 12 2 2 | NULL 5 NULL | || || || ");
        Due.is("less", x.change(0, 2, -11), 4);
        Due.is("rows", Made.told(x), "-1 0 0 | 0 1 1 | 1 2 2 | NULL 5 NULL | || || || ");
        Due.is("0 more", x.change(0, 2, 0), 4);
        Due.is("rows", Made.told(x), "-1 0 0 | 0 1 1 | 1 2 2 | NULL 5 NULL | || || || ");
    }

    private static void wraps() {
        int[][] cases = {{MAX, 1, MIN}, {MIN, -1, MAX}, {MAX, MAX, -2}, {MIN, MIN, 0}, {MIN, MAX, -1}, {1, MAX, MIN},
            {MAX, 0, MAX}, {-1, MIN, MAX}, {MAX - 1, 1, MAX}, {MIN + 1, -1, MIN}};
        for (int[] c : cases) {
            TableEngine x = new TableEngine();
            Made.put(x, 7, c[0]);
            Made.only(x, 2);
            Due.is(c[0] + " and " + c[1] + " more", x.change(1, 2, c[1]), 1);
            Due.is(c[0] + " and " + c[1] + " more", x.value(2, 0, 1), c[2]);
            x.output(1, 0, 0);
            x.condition(0, 1, 0, false, c[2]);
            Due.result("it is that int", x, 1, 1);
        }
        TableEngine x = new TableEngine();
        Made.unique(x, 0);
        Made.put(x, 0, MAX, MIN);
        Made.only(x, 0);
        Due.is("past each other", x.change(0, 2, 1), 2);
        Due.is("rows", Made.told(x), "-2147483648 NULL NULL | -2147483647 NULL NULL | || || || ");
        Made.where(x, 0, 0, MIN);
        Due.is("to the same int", x.change(0, 2, 1), Due.VIOLATED);
    }

    private static void allAtOnce() {
        TableEngine x = Made.rows(0, 16);
        Made.unique(x, 0);
        Made.refer(x, 1, 0, 0);
        Made.refer(x, 3, 0, 0);
        Made.put(x, 3, 5);
        Made.only(x, 0);
        Due.is("column 1 goes free", x.change(1, 1, 0), 16);
        Due.is("each becomes the next", x.change(0, 2, 1), 16);
        Due.is("each becomes the one before", x.change(0, 2, -1), 16);
        for (int i = 0; i < 16; i++) {
            Due.is("row " + i, x.value(0, i, 0), i);
        }
        x.condition(0, 0, 3, false, 7);
        Due.is("8 of them, but 7 becomes 8, which is there", x.change(0, 2, 1), Due.VIOLATED);
        Made.only(x, 0);
        x.condition(0, 2, 3, false, 7);
        Due.is("what holds is found before anything changes", x.change(2, 2, 8), 8);
        Due.is("the first", x.value(0, 0, 2), 8);
        Due.is("the ninth", x.value(0, 8, 2), 8);
    }

    private static void changeNeedsOneSource() {
        TableEngine x = Made.rows(0, 2);
        Due.is("none", x.change(0, 0, 9), Due.BAD);
        x.source(0);
        x.source(1);
        Due.is("two", x.change(0, 0, 9), Due.BAD);
        x.source(0);
        Due.is("three", x.change(0, 0, 9), Due.BAD);
        Due.is("rows", Made.told(x), "0 0 0 | 1 1 1 | || || || ");
        Due.is("the draft stays", x.wipe(), 3);
        x.source(0);
        x.output(1, 0, 0);
        x.limit(0, true);
        Due.is("one; outputs and LIMIT don't matter", x.change(0, 0, 9), 2);
    }

    private static void changedColumnOutside() {
        TableEngine x = Made.rows(1, 2);
        Made.only(x, 1);
        for (int c : Made.OUTSIDE) {
            for (int how = 0; how < 3; how++) {
                Due.is("column " + c + ", how " + how, x.change(c, how, 9), Due.BAD);
            }
        }
        Due.is("rows", Made.told(x), "|| 0 0 0 | 1 1 1 | || || ");
    }

    private static void howOutside() {
        TableEngine x = Made.rows(1, 2);
        Made.only(x, 1);
        for (int how : Made.OUTSIDE) {
            for (int c = 0; c < 3; c++) {
                Due.is("how " + how + ", column " + c, x.change(c, how, 9), Due.BAD);
            }
        }
        Due.is("rows", Made.told(x), "|| 0 0 0 | 1 1 1 | || || ");
    }

    private static void changeViolatesTheColumn() {
        for (int c = 0; c < 3; c++) {
            TableEngine x = Made.rows(2, 3);
            Made.unique(x, 6 + c);
            Made.required(x, 6 + c);
            x.insert(0, 0, 1, 2, 0);
            x.insert(0, 1, 2, 0, 0);
            x.insert(0, 2, 0, 1, 0);
            x.insert(0, 3, 3, 3, 0);
            Made.refer(x, 6 + c, 2, c);
            String before = Made.told(x);
            Made.where(x, 2, c, 2);
            Due.is("UNIQUE, column " + c, x.change(c, 0, 0), Due.VIOLATED);
            Due.is("REQUIRED, column " + c, x.change(c, 1, 0), Due.VIOLATED);
            Due.is("REFERENCE, column " + c, x.change(c, 2, 2), Due.VIOLATED);
            Due.is("rows", Made.told(x), before);
            Due.is("it fits, column " + c, x.change(c, 2, 1), 1);
            Due.is("none holds any more, column " + c, x.change(c, 1, 0), 0);
        }
    }

    private static void changeViolatesWhatRefers() {
        for (int i = 0; i < 81; i++) {
            int from = i / 9;
            int to = i % 9;
            if (from != to) {
                TableEngine x = new TableEngine();
                Made.refer(x, from, i % 3, to);
                Made.put(x, to, 1, 2, 3);
                Made.put(x, from, 2);
                String before = Made.told(x);
                String what = "column " + from + " to " + to;
                int c = to % 3;
                Made.where(x, to / 3, c, 2);
                Due.is(what + ", another int", x.change(c, 0, 9), Due.VIOLATED);
                Due.is(what + ", NULL", x.change(c, 1, 0), Due.VIOLATED);
                Due.is(what + ", 5 more", x.change(c, 2, 5), Due.VIOLATED);
                Due.is(what + ", rows", Made.told(x), before);
                Due.is(what + ", the same int", x.change(c, 0, 2), 1);
                Due.is(what + ", 0 more", x.change(c, 2, 0), 1);
                Made.only(x, to / 3);
                x.condition(0, c, 1, false, 2);
                Due.is(what + ", those that it doesn't refer to", x.change(c, 1, 0), 2);
            }
        }
    }

    private static void howManyHold() {
        TableEngine x = Made.rows(0, 16);
        Made.only(x, 0);
        Due.is("16", x.change(1, 0, 4), 16);
        Due.is("16 that are so already", x.change(1, 0, 4), 16);
        x.condition(0, 0, 2, false, 15);
        Due.is("15", x.change(1, 1, 0), 15);
        Due.is("15 that are NULL", x.change(1, 2, 1), 15);
        x.condition(0, 0, 2, false, 0);
        Due.is("none", x.change(1, 0, 4), 0);
        Made.only(x, 1);
        Due.is("an empty table", x.change(1, 0, 4), 0);
    }
}
