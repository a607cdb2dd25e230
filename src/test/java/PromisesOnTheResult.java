/** Promises 14 to 17, and how long an object is used. */
final class PromisesOnTheResult {
    private static final int MIN = Made.MIN, MAX = Made.MAX;
    private static final long N = Made.N;

    private PromisesOnTheResult() {
    }

    static void run(Sentences promise) {
        promise.say("Works the result out (the draft stays).", PromisesOnTheResult::theDraftStays);
        promise.say("BAD if there is no source", PromisesOnTheResult::noSource);
        promise.say("or no output;", PromisesOnTheResult::noOutput);
        promise.say("TOO_MANY;", PromisesOnTheResult::tooMany);
        promise.say("else how many rows it has.", PromisesOnTheResult::howManyRows);
        promise.say("There is no result after BAD and TOO_MANY.", PromisesOnTheResult::noResultAfterBad);
        promise.say("There is no result after BAD and TOO_MANY.", PromisesOnTheResult::noResultAfterTooMany);
    }

    static void cell(Sentences promise) {
        promise.say("Output k of row i of the latest result;", PromisesOnTheResult::latestResult);
        String none = "NULL if there is none.";
        promise.say(none, PromisesOnTheResult::noSuchRow);
        promise.say(none, PromisesOnTheResult::noSuchOutput);
        promise.say(none, PromisesOnTheResult::shorterAndNarrower);
    }

    static void rows(Sentences promise) {
        promise.say("How many rows table t has;", PromisesOnTheResult::rowsOfATable);
        promise.say("BAD if t is outside.", PromisesOnTheResult::rowsOutside);
    }

    static void value(Sentences promise) {
        promise.say("The value in column c of the i-th row (0 the first) of table t;", PromisesOnTheResult::valueThere);
        String none = "NULL if there is none.";
        promise.say(none, PromisesOnTheResult::noValueOutside);
        promise.say(none, PromisesOnTheResult::noValueBehindTheRows);
    }

    static void use(Sentences what) {
        what.say("An object is used for at most 512 calls after it has been made; what later calls answer is free.",
            PromisesOnTheResult::the512thCall);
        what.say("A small relational engine: three tables with constraints, references that refuse, cascade or clear, "
            + "statements that are done whole or not at all, a transaction that can be taken back, and queries over "
            + "several sources with grouping and order.", PromisesOnTheResult::allOfIt);
    }

    private static TableEngine three() {
        TableEngine x = Made.rows(0, 3);
        x.source(0);
        x.output(0, 0, 0);
        x.output(0, 0, 1);
        return x;
    }

    private static void theDraftStays() {
        TableEngine x = three();
        x.condition(0, 0, 1, false, 1);
        x.key(0, true);
        x.limit(1, true);
        Due.result("once", x, 2, 2, 2);
        Due.result("twice", x, 2, 2, 2);
        x.insert(0, 9, 9, 9, 0);
        Due.result("with a new row", x, 2, 9, 9);
        Due.is("conditions", x.condition(0, 0, 1, false, 9), 2);
        Due.result("with a new condition", x, 2, 2, 2);
        Due.is("outputs", x.output(1, 0, 0), 2);
        Due.is("keys", x.key(0, true), 2);
        Due.is("sources", x.source(1), 1);
    }

    private static void noSource() {
        TableEngine x = new TableEngine();
        Due.is("nothing at all", x.run(), Due.BAD);
        x.output(1, 0, 0);
        Due.is("an output", x.run(), Due.BAD);
        x.source(2);
        Due.is("then a source", x.run(), 1);
    }

    private static void noOutput() {
        TableEngine x = Made.rows(0, 1);
        for (int s = 0; s < 3; s++) {
            x.source(s);
            Due.is("just sources", x.run(), Due.BAD);
        }
        x.condition(0, 0, 5, false, 0);
        Due.is("and a condition", x.run(), Due.BAD);
        x.output(1, 0, 0);
        Due.is("then an output", x.run(), 1);
    }

    /** 64 combinations, of which the condition that column 1 of source 1 is 9 leaves 48. */
    private static TableEngine sixtyFour() {
        TableEngine x = Made.rows(0, 16);
        x.insert(1, 0, 8, 0, 0);
        for (int i = 1; i < 4; i++) {
            x.insert(1, i, 9, 0, 0);
        }
        x.source(0);
        x.source(1);
        x.output(0, 0, 0);
        x.output(0, 1, 0);
        return x;
    }

    private static void tooMany() {
        TableEngine x = sixtyFour();
        Due.is("64", x.run(), Due.TOO_MANY);
        Due.is("64 again", x.run(), Due.TOO_MANY);
        x.condition(1, 1, 0, false, 9);
        Due.is("48", x.run(), 48);
        x.source(0);
        Due.is("768", x.run(), Due.TOO_MANY);
        x.output(1, 0, 0);
        Due.is("48 groups", x.run(), 48);
        Due.is("of 16 each", x.cell(47, 2), 16);
    }

    private static void howManyRows() {
        TableEngine x = three();
        Due.is("three", x.run(), 3);
        x.condition(0, 0, 2, false, 1);
        Due.is("one", x.run(), 1);
        x.condition(0, 0, 4, false, 0);
        Due.is("none", x.run(), 0);
        x.output(1, 0, 0);
        Due.is("no group", x.run(), 0);
        Made.only(x, 0);
        x.output(1, 0, 0);
        x.limit(0, false);
        Due.is("none of one", x.run(), 0);
    }

    private static void noResultAfterBad() {
        TableEngine x = three();
        Due.is("a result", x.run(), 3);
        x.wipe();
        Due.is("it is there", x.cell(2, 1), 2);
        Due.is("no source", x.run(), Due.BAD);
        for (int i = 0; i < 6; i++) {
            Due.is("no result", x.cell(i / 2, i % 2), N);
        }
        x.source(0);
        x.output(1, 0, 0);
        Due.result("a result again", x, 1, 3);
        Made.only(x, 0);
        Due.is("no output", x.run(), Due.BAD);
        Due.is("no result", x.cell(0, 0), N);
    }

    private static void noResultAfterTooMany() {
        TableEngine x = sixtyFour();
        x.condition(1, 1, 0, false, 9);
        Due.is("a result", x.run(), 48);
        x.wipe();
        x.source(0);
        x.source(1);
        x.output(0, 0, 0);
        x.output(0, 1, 0);
        Due.is("64 rows", x.run(), Due.TOO_MANY);
        for (int i = 0; i < 61; i++) {
            Due.is("no result", x.cell(i, 0), N);
            Due.is("no result", x.cell(i, 1), N);
        }
        x.limit(3, false);
        Due.is("64 rows, LIMIT 3", x.run(), Due.TOO_MANY);
        Due.is("no result", x.cell(0, 0), N);
        x.output(1, 0, 0);
        Due.is("64 groups", x.run(), Due.TOO_MANY);
        Due.is("no result", x.cell(0, 2), N);
    }

    private static void latestResult() {
        TableEngine x = three();
        x.run();
        for (int i = 0; i < 6; i++) {
            Due.is("row " + i / 2 + ", output " + i % 2, x.cell(i / 2, i % 2), i / 2);
        }
        Made.only(x, 0);
        x.change(0, 0, 77);
        x.erase();
        x.insert(0, 5, 5, 5, 0);
        x.begin();
        x.end(false);
        x.output(9, 9, 9);
        Due.is("it stays until the next run", x.cell(1, 0), 1);
        Due.is("it stays until the next run", x.cell(2, 1), 2);
        x.output(0, 0, 2);
        Due.is("it stays until the next run", x.cell(2, 1), 2);
        Due.result("the next run", x, 1, 5);
        Due.is("nothing is left of the one before", x.cell(1, 0), N);
    }

    private static void noSuchRow() {
        TableEngine x = three();
        x.run();
        int[] outside = {-1, 3, 4, 60, MIN, MAX, 1 << 30, 0x40000001, -1 << 30};
        for (int i : outside) {
            Due.is("row " + i, x.cell(i, 0), N);
            Due.is("row " + i + ", output 1", x.cell(i, 1), N);
        }
    }

    private static void noSuchOutput() {
        TableEngine x = three();
        x.run();
        int[] outside = {-1, 2, 3, 4, 5, MIN, MAX, -4};
        for (int k : outside) {
            for (int i = 0; i < 3; i++) {
                Due.is("row " + i + ", output " + k, x.cell(i, k), N);
            }
        }
        x.output(0, 0, 2);
        Due.is("one that was added behind the run", x.cell(0, 2), N);
        x.run();
        Due.is("then it is there", x.cell(1, 2), 1);
    }

    private static void shorterAndNarrower() {
        TableEngine x = three();
        x.run();
        Made.only(x, 0);
        x.output(3, 0, 0);
        Due.result("one row, one output", x, 1, 3);
        Due.is("row 1", x.cell(1, 0), N);
        Due.is("output 1", x.cell(0, 1), N);
        x.limit(0, false);
        Due.result("no row", x, 1);
    }

    private static void rowsOfATable() {
        TableEngine x = new TableEngine();
        for (int t = 0; t < 3; t++) {
            for (int i = 0; i < 16; i++) {
                Due.is("table " + t, x.rows(t), i);
                x.insert(t, i, i, i, 7);
            }
            Due.is("table " + t, x.rows(t), 16);
            x.insert(t, 0, 0, 0, 0);
            Due.is("FULL, table " + t, x.rows(t), 16);
        }
        Due.is("all of table 1", Made.eraseAll(x, 1), 16);
        Due.is("table 0", x.rows(0), 16);
        Due.is("table 1", x.rows(1), 0);
        Due.is("table 2", x.rows(2), 16);
    }

    private static void rowsOutside() {
        TableEngine x = Made.rows(0, 2);
        for (int t : Made.OUTSIDE) {
            Due.is("table " + t, x.rows(t), Due.BAD);
        }
    }

    private static void valueThere() {
        TableEngine x = new TableEngine();
        for (int i = 0; i < 48; i++) {
            x.insert(i % 3, 10 * i, 10 * i + 1, 10 * i + 2, i == 47 ? 4 : 0);
        }
        for (int i = 0; i < 143; i++) {
            Due.is("table " + i / 3 % 3, x.value(i / 3 % 3, i / 9, i % 3), 10 * (i / 3) + i % 3);
        }
        Due.is("the last one, which is NULL", x.value(2, 15, 2), N);
    }

    private static void noValueOutside() {
        TableEngine x = new TableEngine();
        for (int t = 0; t < 3; t++) {
            Made.fill(x, t, 16);
        }
        for (int v : Made.OUTSIDE) {
            Due.is("table " + v, x.value(v, 0, 0), N);
            Due.is("column " + v, x.value(1, 0, v), N);
            Due.is("both " + v, x.value(v, 0, v), N);
        }
        int[] outside = {-1, 16, 17, MIN, MAX, 1 << 28, -16};
        for (int i : outside) {
            for (int t = 0; t < 3; t++) {
                Due.is("row " + i + " of table " + t, x.value(t, i, 1), N);
            }
        }
        Due.is("table 1, column -1 is not table 0, column 2", x.value(1, 0, -1), N);
        Due.is("table -1, column 3 is not table 0, column 0", x.value(-1, 0, 3), N);
    }

    private static void noValueBehindTheRows() {
        TableEngine x = Made.rows(0, 5);
        Due.is("row 5 of 5", x.value(0, 5, 0), N);
        Made.only(x, 0);
        x.condition(0, 0, 5, false, 0);
        x.condition(0, 0, 2, false, 3);
        Due.is("three go", x.erase(), 3);
        for (int i = 2; i < 16; i++) {
            Due.is("row " + i + " of 2", x.value(0, i, 0), N);
        }
        x.constrain(0, 0, 0, 0, 0);
        x.insert(0, 4, 4, 4, 0);
        Due.is("a refused row isn't there", x.value(0, 2, 1), N);
    }

    private static void the512thCall() {
        TableEngine x = new TableEngine();
        int calls = 0;
        for (; calls < 16; calls++) {
            x.insert(0, calls, calls, calls, 0);
        }
        for (; calls < 506; calls += 2) {
            Due.is("begin", x.begin(), true);
            Due.is("end", x.end(calls % 4 == 0), true);
        }
        x.source(0);
        x.source(0);
        x.source(0);
        x.output(1, 0, 0);
        Due.is("the 511th call", x.run(), 1);
        Due.is("the 512th call", x.cell(0, 0), 4096);
    }

    private static void allOfIt() {
        TableEngine x = Made.keyed(3);
        Made.refer(x, 3, 1, 0);
        Made.refer(x, 6, 2, 0);
        Made.refer(x, 7, 0, 0);
        x.insert(1, 1, 10, 0, 0);
        x.insert(1, 1, 20, 0, 0);
        x.insert(1, 2, 40, 0, 0);
        x.insert(2, 1, 3, 0, 0);
        x.begin();
        Due.is("refused", Made.eraseAll(x, 0), Due.VIOLATED);
        Due.is("cascaded and cleared", Made.eraseWhere(x, 0, 0, 1), 3);
        Due.is("rows", Made.told(x), "2 NULL NULL | 3 NULL NULL | || 2 40 0 | || NULL 3 0 | || ");
        x.end(false);
        Made.only(x, 0);
        x.source(1);
        x.condition(0, 0, 0, true, 3);
        x.output(0, 0, 0);
        x.output(3, 1, 1);
        x.key(1, true);
        Due.result("sums, falling", x, 2, 2, 40, 1, 30);
    }
}
