/** Promises 6 and 7. */
final class PromisesOnTransactions {
    private static final long N = Made.N;

    private PromisesOnTransactions() {
    }

    static void begin(Sentences promise) {
        promise.say("A transaction begins.", PromisesOnTransactions::begins);
        promise.say("False if one is open.", PromisesOnTransactions::oneIsOpen);
    }

    static void end(Sentences promise) {
        promise.say("The transaction ends:", PromisesOnTransactions::ends);
        promise.say("what was done stays (keep),", PromisesOnTransactions::kept);
        String back = "or rows and constraints are as at its beginning.";
        promise.say(back, PromisesOnTransactions::rowsAsAtItsBeginning);
        promise.say(back, PromisesOnTransactions::fullAndEmptyTables);
        promise.say(back, PromisesOnTransactions::everyCell);
        promise.say(back, PromisesOnTransactions::constraintsAsAtItsBeginning);
        promise.say(back, PromisesOnTransactions::constraintsOfEveryColumn);
        promise.say(back, PromisesOnTransactions::draftAndResultAreNeither);
        promise.say("False if none is open.", PromisesOnTransactions::noneIsOpen);
    }

    private static void begins() {
        TableEngine x = Made.rows(0, 1);
        Due.is("begin", x.begin(), true);
        Due.is("nothing changes by it", Made.told(x), "0 0 0 | || || || ");
        Due.is("what is done is there", x.insert(0, 5, 5, 5, 0), 2);
        Due.is("what is done is there", Made.told(x), "0 0 0 | 5 5 5 | || || || ");
    }

    private static void oneIsOpen() {
        TableEngine x = Made.rows(0, 1);
        x.begin();
        x.insert(0, 5, 5, 5, 0);
        Due.is("a second one", x.begin(), false);
        Due.is("a third one", x.begin(), false);
        Due.is("the beginning is that of the first", x.end(false), true);
        Due.is("rows", Made.told(x), "0 0 0 | || || || ");
        Due.is("the others didn't begin", x.end(false), false);
    }

    private static void ends() {
        for (int i = 0; i < 4; i++) {
            TableEngine x = new TableEngine();
            for (int round = 0; round < 3; round++) {
                Due.is("begin", x.begin(), true);
                Due.is("end", x.end(i % 2 == 0), true);
                Due.is("it has ended", x.end(i / 2 == 0), false);
            }
        }
    }

    private static void kept() {
        TableEngine x = Made.rows(0, 3);
        x.begin();
        x.insert(1, 7, 7, 7, 0);
        Made.eraseWhere(x, 0, 0, 1);
        Made.where(x, 0, 0, 2);
        x.change(1, 1, 0);
        Made.unique(x, 0);
        x.end(true);
        String rows = "0 0 0 | 2 NULL 2 | || 7 7 7 | || || ";
        Due.is("rows", Made.told(x), rows);
        Due.is("UNIQUE", x.insert(0, 2, 0, 0, 0), Due.VIOLATED);
        x.begin();
        x.insert(2, 1, 1, 1, 0);
        x.end(false);
        Due.is("the next one goes back to them", Made.told(x), rows);
        Due.is("UNIQUE still", x.insert(0, 2, 0, 0, 0), Due.VIOLATED);
    }

    private static void rowsAsAtItsBeginning() {
        TableEngine x = Made.rows(0, 4);
        Made.unique(x, 0);
        Made.refer(x, 3, 1, 0);
        Made.refer(x, 6, 2, 0);
        Made.put(x, 3, 1, 2);
        Made.put(x, 6, 1, 3);
        String before = Made.told(x);
        x.begin();
        Due.is("erased, with one that refers", Made.eraseWhere(x, 0, 0, 1), 2);
        Due.is("cleared", x.value(2, 0, 0), N);
        Made.only(x, 0);
        Due.is("changed", x.change(2, 2, 1000), 3);
        Due.is("inserted", x.insert(1, 3, 3, 3, 0), 2);
        Due.is("VIOLATED", x.insert(0, 3, 3, 3, 0), Due.VIOLATED);
        x.end(false);
        Due.is("rows", Made.told(x), before);
        Due.is("a new one stands behind them", x.insert(0, 9, 9, 9, 0), 5);
    }

    private static void fullAndEmptyTables() {
        TableEngine x = Made.rows(0, 16);
        String before = Made.told(x);
        x.begin();
        Due.is("16 go", Made.eraseAll(x, 0), 16);
        Made.fill(x, 1, 16);
        Due.is("16 come", x.rows(1), 16);
        x.end(false);
        Due.is("rows", Made.told(x), before);
        Due.is("full", x.insert(0, 1, 1, 1, 0), Due.FULL);
        Due.is("empty", x.insert(1, 1, 1, 1, 0), 1);
    }

    private static void everyCell() {
        TableEngine x = new TableEngine();
        for (int i = 0; i < 48; i++) {
            x.insert(i % 3, 3 * i, 3 * i + 1, 3 * i + 2, 0);
        }
        x.begin();
        for (int column = 0; column < 9; column++) {
            Made.only(x, column / 3);
            Due.is("column " + column, x.change(column % 3, 2, 1000), 16);
        }
        x.end(false);
        for (int i = 0; i < 144; i++) {
            Due.is("a cell of table " + i / 3 % 3, x.value(i / 3 % 3, i / 9, i % 3), i);
        }
    }

    private static void constraintsOfEveryColumn() {
        for (int column = 0; column < 9; column++) {
            TableEngine x = new TableEngine();
            int t = column / 3;
            int c = column % 3;
            int to = (column + 3) % 9;
            Made.unique(x, column, to);
            Made.required(x, column);
            Made.refer(x, column, 0, to);
            Made.put(x, to, 1, 2);
            Made.put(x, column, 1);
            x.begin();
            Made.refer(x, column, 1, to);
            x.constrain(t, c, 5, 0, 0);
            x.constrain(to / 3, to % 3, 5, 0, 0);
            Due.is("column " + column + " is free", x.insert(t, 9, 9, 9, 7), 2);
            x.end(false);
            Due.is("UNIQUE, column " + column, x.insert(t, 1, 1, 1, 7 - (1 << c)), Due.VIOLATED);
            Due.is("REQUIRED, column " + column, x.insert(t, 2, 2, 2, 7), Due.VIOLATED);
            Due.is("REFERENCE, column " + column, x.insert(t, 9, 9, 9, 7 - (1 << c)), Due.VIOLATED);
            Due.is("to column " + to, x.constrain(to / 3, to % 3, 5, 0, 0), Due.BAD);
            Due.is("action 0, column " + column, Made.eraseWhere(x, to / 3, to % 3, 1), Due.VIOLATED);
            Due.is("it fits, column " + column, x.insert(t, 2, 2, 2, 7 - (1 << c)), 2);
        }
    }

    private static void constraintsAsAtItsBeginning() {
        TableEngine x = Made.keyed(2);
        Made.required(x, 4);
        Made.refer(x, 3, 0, 0);
        x.insert(1, 1, 0, 0, 4);
        x.begin();
        Made.refer(x, 3, 1, 0);
        Made.unique(x, 8);
        Made.required(x, 7);
        Made.refer(x, 5, 2, 8);
        Due.is("taken away", x.constrain(1, 1, 5, 0, 0), 0);
        x.end(false);
        Due.is("REQUIRED again", x.insert(1, 1, 0, 0, 2), Due.VIOLATED);
        Due.is("not REQUIRED, not UNIQUE", x.insert(2, 1, 1, 1, 2), 1);
        Due.is("not UNIQUE", x.insert(2, 1, 1, 1, 2), 2);
        Due.is("no REFERENCE", x.insert(1, 2, 0, 99, 0), 2);
        Due.is("none refers", x.constrain(2, 2, 5, 0, 0), 0);
        Due.is("the old action", Made.eraseWhere(x, 0, 0, 1), Due.VIOLATED);
    }

    private static void draftAndResultAreNeither() {
        TableEngine x = Made.rows(0, 3);
        x.begin();
        x.source(0);
        x.condition(0, 0, 1, false, 1);
        x.output(0, 0, 0);
        x.key(0, true);
        x.limit(1, false);
        Due.result("inside", x, 1, 2);
        x.erase();
        x.end(false);
        Due.is("the result is the latest", x.cell(0, 0), 2);
        Due.result("the draft is as it was made", x, 1, 2);
        Due.is("conditions", x.condition(0, 0, 5, false, 0), 2);
        Due.is("outputs", x.output(0, 0, 0), 1);
        Due.is("keys", x.key(0, true), 2);
        Due.is("sources", x.wipe(), 1);
    }

    private static void noneIsOpen() {
        TableEngine x = new TableEngine();
        Due.is("none has begun", x.end(true), false);
        Due.is("none has begun", x.end(false), false);
        x.begin();
        x.insert(0, 1, 1, 1, 0);
        x.end(true);
        x.insert(0, 2, 2, 2, 0);
        Due.is("it has ended", x.end(false), false);
        Due.is("so nothing goes back", Made.told(x), "1 1 1 | 2 2 2 | || || || ");
        x.begin();
        x.end(false);
        x.insert(0, 3, 3, 3, 0);
        Due.is("it has ended", x.end(false), false);
        Due.is("so nothing goes back", x.rows(0), 3);
    }
}
