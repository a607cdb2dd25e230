/** Promises 1 and 2. */
final class PromisesOnConstraints {
    private static final int MIN = Made.MIN, MAX = Made.MAX;
    private static final long N = Made.N;

    private PromisesOnConstraints() {
    }

    static void newObject(Sentences promise) {
        promise.say("No rows,", PromisesOnConstraints::noRows);
        promise.say("no constraints,", PromisesOnConstraints::noConstraints);
        promise.say("an empty draft,", PromisesOnConstraints::emptyDraft);
        promise.say("no result,", PromisesOnConstraints::noResult);
        promise.say("no transaction.", PromisesOnConstraints::noTransaction);
    }

    static void constrain(Sentences promise) {
        promise.say("Column c of table t (else BAD) gets a constraint:", PromisesOnConstraints::columnOutside);
        promise.say("kind 0 UNIQUE,", PromisesOnConstraints::unique);
        promise.say("1 REQUIRED,", PromisesOnConstraints::required);
        promise.say("2, 3, 4 a REFERENCE", PromisesOnConstraints::reference);
        promise.say("(in place of one that it has)", PromisesOnConstraints::inPlaceOfAnother);
        promise.say("with action 0, 1, 2 to column d of table u.", PromisesOnConstraints::actionOfEachKind);
        promise.say("BAD for that if u or d is outside,", PromisesOnConstraints::targetOutside);
        promise.say("it is the same column,", PromisesOnConstraints::sameColumn);
        promise.say("or not UNIQUE.", PromisesOnConstraints::targetNotUnique);
        String violated = "VIOLATED if the rows don't fit.";
        promise.say(violated, PromisesOnConstraints::rowsNotUnique);
        promise.say(violated, PromisesOnConstraints::rowsWithNull);
        promise.say(violated, PromisesOnConstraints::rowsThatReferToNone);
        promise.say(violated, PromisesOnConstraints::violatedKeepsTheOldOne);
        promise.say("kind 5 takes all its constraints away:", PromisesOnConstraints::takesAllAway);
        promise.say("BAD if a column refers to it.", PromisesOnConstraints::referredTo);
        promise.say("BAD for other kinds;", PromisesOnConstraints::otherKinds);
        promise.say("else OK.", PromisesOnConstraints::againIsOk);
    }

    private static void noRows() {
        TableEngine x = new TableEngine();
        for (int t = 0; t < 3; t++) {
            Due.is("rows of table " + t, x.rows(t), 0);
            for (int i = 0; i < 16; i++) {
                Due.is("value in table " + t + ", row " + i, x.value(t, i, i % 3), N);
            }
        }
    }

    private static void noConstraints() {
        for (int column = 0; column < 9; column++) {
            TableEngine x = new TableEngine();
            int t = column / 3;
            Due.is("nothing refers to column " + column, x.constrain(t, column % 3, 5, 0, 0), 0);
            int other = (column + 1) % 9;
            int answer = x.constrain(other / 3, other % 3, 2, t, column % 3);
            Due.is("column " + column + " isn't UNIQUE", answer, Due.BAD);
            Due.is("no REFERENCE, " + column, x.insert(t, 5, 5, 5, 0), 1);
            Due.is("not UNIQUE, " + column, x.insert(t, 5, 5, 5, 0), 2);
            Due.is("not REQUIRED, " + column, x.insert(t, 5, 5, 5, 1 << column % 3), 3);
        }
    }

    private static void emptyDraft() {
        TableEngine x = Made.rows(0, 1);
        Due.is("no source for a condition", x.condition(0, 0, 5, false, 0), Due.BAD);
        Due.is("no source for an output", x.output(0, 0, 0), Due.BAD);
        Due.is("no output for a key", x.key(0, false), Due.BAD);
        Due.is("no source to erase", x.erase(), Due.BAD);
        Due.is("no source to change", x.change(0, 0, 0), Due.BAD);
        Due.is("nothing to run", x.run(), Due.BAD);
        Due.is("no source to wipe", x.wipe(), 0);
        Due.is("the first source", x.source(0), 0);
        Due.is("the first condition", x.condition(0, 0, 5, false, 0), 1);
        Due.is("the first output", x.output(0, 0, 0), 0);
        Due.is("the first key", x.key(0, false), 1);
    }

    private static void noResult() {
        TableEngine x = new TableEngine();
        for (int i = 0; i < 60; i++) {
            for (int k = 0; k < 4; k++) {
                Due.is("row " + i + ", output " + k, x.cell(i, k), N);
            }
        }
    }

    private static void noTransaction() {
        TableEngine x = new TableEngine();
        Due.is("none to keep", x.end(true), false);
        Due.is("none to take back", x.end(false), false);
        Due.is("one can begin", x.begin(), true);
    }

    private static void columnOutside() {
        TableEngine x = new TableEngine();
        Made.unique(x, 4);
        for (int v : Made.OUTSIDE) {
            for (int kind = 0; kind <= 5; kind++) {
                Due.is("table " + v + ", kind " + kind, x.constrain(v, 0, kind, 1, 1), Due.BAD);
                Due.is("column " + v + ", kind " + kind, x.constrain(0, v, kind, 1, 1), Due.BAD);
            }
        }
        Due.is("table 1, column -1 is not table 0, column 2", x.constrain(1, -1, 1, 0, 0), Due.BAD);
        Due.is("table -1, column 3 is not table 0, column 0", x.constrain(-1, 3, 1, 0, 0), Due.BAD);
        for (int t = 0; t < 3; t++) {
            Due.is("no column of table " + t + " got one", x.insert(t, 7, 7, 7, 7), 1);
        }
    }

    private static void unique() {
        for (int column = 0; column < 9; column++) {
            TableEngine x = new TableEngine();
            Due.is("u and d aren't looked at", x.constrain(column / 3, column % 3, 0, MIN, MAX), 0);
            for (int t = 0; t < 3; t++) {
                x.insert(t, 5, 5, 5, 0);
                int answer = x.insert(t, 5, 5, 5, 0);
                Due.is("UNIQUE " + column + ", table " + t, answer, t == column / 3 ? Due.VIOLATED : 2);
            }
        }
    }

    private static void required() {
        for (int column = 0; column < 9; column++) {
            TableEngine x = new TableEngine();
            Due.is("u and d aren't looked at", x.constrain(column / 3, column % 3, 1, MIN, MAX), 0);
            for (int t = 0; t < 3; t++) {
                int answer = x.insert(t, 5, 5, 5, 7);
                Due.is("REQUIRED " + column + ", table " + t, answer, t == column / 3 ? Due.VIOLATED : 1);
            }
        }
    }

    private static void reference() {
        for (int kind = 2; kind <= 4; kind++) {
            TableEngine x = Made.keyed(1);
            Due.is("kind " + kind, x.constrain(2, 1, kind, 0, 0), 0);
            Due.is("2 isn't there", x.insert(2, 0, 2, 0, 0), Due.VIOLATED);
            Due.is("1 is", x.insert(2, 0, 1, 0, 0), 1);
            Due.is("it isn't UNIQUE or REQUIRED for that", x.insert(2, 0, 1, 0, 0), 2);
            Due.is("it isn't UNIQUE or REQUIRED for that", x.insert(2, 0, 1, 0, 2), 3);
        }
    }

    private static void inPlaceOfAnother() {
        TableEngine x = Made.keyed(1);
        Made.unique(x, 6);
        Made.put(x, 6, 2);
        Made.refer(x, 4, 1, 0);
        Made.refer(x, 4, 2, 6);
        Due.is("the first one is gone", x.insert(1, 0, 1, 0, 0), Due.VIOLATED);
        Due.is("the second one is there", x.insert(1, 0, 2, 0, 0), 1);
        Due.is("none refers to the first column", x.constrain(0, 0, 5, 0, 0), 0);
        Due.is("one refers to the second", x.constrain(2, 0, 5, 0, 0), Due.BAD);
        Due.is("the second action", Made.eraseAll(x, 2), 1);
        Due.is("rows", Made.told(x), "1 NULL NULL | || 0 NULL 0 | || || ");
    }

    private static void actionOfEachKind() {
        int[] answers = {Due.VIOLATED, 2, 1};
        for (int kind = 2; kind <= 4; kind++) {
            for (int to = 0; to < 9; to++) {
                int from = (to + 5) % 9;
                TableEngine x = new TableEngine();
                Made.unique(x, to);
                Made.put(x, to, 3);
                x.constrain(from / 3, from % 3, kind, to / 3, to % 3);
                Made.put(x, from, 3);
                String what = "kind " + kind + ", column " + from + " to " + to;
                Due.is(what, Made.eraseWhere(x, to / 3, to % 3, 3), answers[kind - 2]);
            }
        }
    }

    private static void targetOutside() {
        TableEngine x = new TableEngine();
        for (int column = 0; column < 9; column++) {
            Made.unique(x, column);
        }
        for (int kind = 2; kind <= 4; kind++) {
            for (int v : Made.OUTSIDE) {
                Due.is("u " + v, x.constrain(1, 1, kind, v, 0), Due.BAD);
                Due.is("d " + v, x.constrain(1, 1, kind, 0, v), Due.BAD);
            }
            Due.is("table 1, column -1 is not table 0, column 2", x.constrain(1, 1, kind, 1, -1), Due.BAD);
            Due.is("table -1, column 3 is not table 0, column 0", x.constrain(1, 1, kind, -1, 3), Due.BAD);
        }
        Due.is("it got none", x.insert(1, 1, 1, 1, 0), 1);
    }

    private static void sameColumn() {
        for (int column = 0; column < 9; column++) {
            TableEngine x = new TableEngine();
            Made.unique(x, column);
            int t = column / 3;
            int c = column % 3;
            for (int kind = 2; kind <= 4; kind++) {
                Due.is("column " + column, x.constrain(t, c, kind, t, c), Due.BAD);
                Due.is("another one of the table", x.constrain(t, (c + 1) % 3, kind, t, c), 0);
                Due.is("the same one of another table", x.constrain((t + 1) % 3, c, kind, t, c), 0);
            }
            Due.is("the column itself got none", x.insert(t, 4, 4, 4, 7 - (1 << c)), 1);
        }
    }

    private static void targetNotUnique() {
        TableEngine x = new TableEngine();
        Made.required(x, 0);
        Made.unique(x, 2);
        for (int kind = 2; kind <= 4; kind++) {
            Due.is("REQUIRED", x.constrain(1, 0, kind, 0, 0), Due.BAD);
            Due.is("nothing", x.constrain(1, 0, kind, 0, 1), Due.BAD);
            Due.is("UNIQUE", x.constrain(1, 0, kind, 0, 2), 0);
            Due.is("not UNIQUE, in place of one", x.constrain(1, 0, kind, 0, 1), Due.BAD);
        }
        Due.is("the one before stays", x.insert(1, 5, 5, 5, 0), Due.VIOLATED);
        x.constrain(1, 0, 5, 0, 0);
        x.constrain(0, 2, 5, 0, 0);
        Due.is("no longer UNIQUE", x.constrain(1, 0, 2, 0, 2), Due.BAD);
    }

    private static void rowsNotUnique() {
        for (int last = 1; last < 16; last++) {
            TableEngine x = Made.rows(2, 16);
            Made.where(x, 2, 0, last);
            x.change(1, 0, last - 1);
            Due.is("rows " + (last - 1) + " and " + last, x.constrain(2, 1, 0, 0, 0), Due.VIOLATED);
            Due.is("it isn't UNIQUE", x.constrain(1, 1, 2, 2, 1), Due.BAD);
            x.change(1, 1, 0);
            Due.is("NULL instead", x.constrain(2, 1, 0, 0, 0), 0);
        }
        TableEngine x = Made.rows(2, 16);
        Made.where(x, 2, 0, 15);
        x.change(1, 0, 0);
        Due.is("the first and the last", x.constrain(2, 1, 0, 0, 0), Due.VIOLATED);
        Due.is("the columns beside it", x.constrain(2, 0, 0, 0, 0), 0);
        Due.is("the columns beside it", x.constrain(2, 2, 0, 0, 0), 0);
        Made.eraseWhere(x, 2, 0, 15);
        Due.is("without the last", x.constrain(2, 1, 0, 0, 0), 0);
    }

    private static void rowsWithNull() {
        for (int i = 0; i < 16; i++) {
            TableEngine x = Made.rows(1, 16);
            Made.where(x, 1, 0, i);
            x.change(2, 1, 0);
            Due.is("row " + i, x.constrain(1, 2, 1, 0, 0), Due.VIOLATED);
            Due.is("the column beside it", x.constrain(1, 1, 1, 0, 0), 0);
            x.change(2, 0, 0);
            Due.is("no NULL", x.constrain(1, 2, 1, 0, 0), 0);
        }
    }

    private static void rowsThatReferToNone() {
        for (int i = 0; i < 16; i++) {
            TableEngine x = Made.rows(0, 16);
            Made.fill(x, 1, 16);
            Made.unique(x, 0);
            Due.is("all are there", x.constrain(1, 1, 3, 0, 0), 0);
            Made.where(x, 1, 0, i);
            x.change(2, 0, 16);
            Due.is("row " + i, x.constrain(1, 2, 3, 0, 0), Due.VIOLATED);
            x.change(2, 1, 0);
            Due.is("NULL", x.constrain(1, 2, 3, 0, 0), 0);
        }
        TableEngine x = Made.rows(1, 1);
        Made.unique(x, 0);
        Due.is("to an empty table", x.constrain(1, 1, 2, 0, 0), Due.VIOLATED);
        Due.is("from an empty table", x.constrain(2, 1, 2, 0, 0), 0);
        Made.unique(x, 3);
        Due.is("to a column beside it", x.constrain(1, 1, 2, 1, 0), 0);
    }

    private static void violatedKeepsTheOldOne() {
        TableEngine x = Made.keyed(1);
        Made.unique(x, 6);
        Made.refer(x, 4, 1, 0);
        Made.put(x, 4, 1);
        Due.is("1 isn't there", x.constrain(1, 1, 4, 2, 0), Due.VIOLATED);
        Due.is("none refers to the other", x.constrain(2, 0, 5, 0, 0), 0);
        Due.is("the old one is there", x.insert(1, 0, 2, 0, 0), Due.VIOLATED);
        Due.is("with its action", Made.eraseAll(x, 0), 2);
    }

    private static void takesAllAway() {
        TableEngine x = Made.keyed(1);
        Made.unique(x, 4);
        Made.required(x, 4);
        Made.refer(x, 4, 0, 0);
        Made.required(x, 3);
        Due.is("u and d aren't looked at", x.constrain(1, 1, 5, MIN, MAX), 0);
        Due.is("no REFERENCE", x.insert(1, 0, 9, 0, 0), 1);
        Due.is("not UNIQUE", x.insert(1, 0, 9, 0, 0), 2);
        Due.is("not REQUIRED", x.insert(1, 0, 9, 0, 2), 3);
        Due.is("that of the next column stays", x.insert(1, 0, 9, 0, 1), Due.VIOLATED);
        Due.is("nothing refers", Made.eraseAll(x, 0), 1);
        Due.is("where there is none", x.constrain(1, 1, 5, 0, 0), 0);
    }

    private static void referredTo() {
        for (int from = 1; from < 9; from++) {
            TableEngine x = new TableEngine();
            Made.required(x, 0);
            Made.refer(x, from, from % 3, 0);
            Due.is("column " + from + " refers, no row", x.constrain(0, 0, 5, 0, 0), Due.BAD);
            Due.is("REQUIRED as before", x.insert(0, 0, 0, 0, 7), Due.VIOLATED);
            Made.put(x, 0, 1);
            Due.is("UNIQUE as before", x.insert(0, 1, 0, 0, 6), Due.VIOLATED);
            Due.is("what refers can be taken away", x.constrain(from / 3, from % 3, 5, 0, 0), 0);
            Due.is("then it can", x.constrain(0, 0, 5, 0, 0), 0);
        }
        TableEngine x = new TableEngine();
        Made.refer(x, 0, 0, 4);
        Made.refer(x, 4, 0, 0);
        Due.is("each refers to the other", x.constrain(0, 0, 5, 0, 0), Due.BAD);
        Due.is("each refers to the other", x.constrain(1, 1, 5, 0, 0), Due.BAD);
        Made.refer(x, 4, 0, 8);
        Due.is("not any more", x.constrain(0, 0, 5, 0, 0), 0);
    }

    private static void otherKinds() {
        TableEngine x = Made.keyed(0);
        int[] kinds = {-1, 6, 7, MIN, MAX, 1 << 16, 256};
        for (int kind : kinds) {
            Due.is("kind " + kind, x.constrain(1, 1, kind, 0, 0), Due.BAD);
        }
        Due.is("it got none", x.insert(1, 5, 5, 5, 7), 1);
        Due.is("it got none", x.insert(1, 5, 5, 5, 0), 2);
        Due.is("it got none", x.insert(1, 5, 5, 5, 0), 3);
    }

    private static void againIsOk() {
        TableEngine x = Made.keyed(1);
        Made.put(x, 4, 1);
        for (int kind = 0; kind <= 5; kind++) {
            Due.is("kind " + kind, x.constrain(1, 1, kind, 0, 0), 0);
            Due.is("kind " + kind + " again", x.constrain(1, 1, kind, 0, 0), 0);
        }
    }
}
