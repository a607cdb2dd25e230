/** Promises 8 to 13. */
final class PromisesOnTheDraft {
    private static final int MIN = Made.MIN, MAX = Made.MAX;

    private PromisesOnTheDraft() {
    }

    static void source(Sentences promise) {
        promise.say("Adds a source; answers its number.", PromisesOnTheDraft::addsASource);
        promise.say("BAD if t is outside 0..2;", PromisesOnTheDraft::sourceOutside);
        promise.say("FULL.", PromisesOnTheDraft::sourcesFull);
    }

    static void condition(Sentences promise) {
        promise.say("Adds a condition; answers how many there are.", PromisesOnTheDraft::addsACondition);
        promise.say("BAD if s is no source,", PromisesOnTheDraft::conditionOnNoSource);
        promise.say("c outside 0..2,", PromisesOnTheDraft::conditionColumnOutside);
        promise.say("op outside 0..5,", PromisesOnTheDraft::opOutside);
        promise.say("or, if column is true, v isn't 3 * a source + a column;", PromisesOnTheDraft::secondColumnOutside);
        promise.say("FULL.", PromisesOnTheDraft::conditionsFull);
        promise.say("The second one is the int v, or that column.", PromisesOnTheDraft::theSecondOne);
    }

    static void output(Sentences promise) {
        promise.say("Adds an output; answers its number.", PromisesOnTheDraft::addsAnOutput);
        promise.say("BAD if kind is outside 0..6", PromisesOnTheDraft::kindOutside);
        promise.say("or (for all kinds but 1) s is no source", PromisesOnTheDraft::outputOfNoSource);
        promise.say("or c outside;", PromisesOnTheDraft::outputColumnOutside);
        promise.say("(for all kinds but 1)", PromisesOnTheDraft::kindOneNeedsNone);
        promise.say("FULL.", PromisesOnTheDraft::outputsFull);
    }

    static void key(Sentences promise) {
        promise.say("Adds a key: output k, rising or falling; answers how many there are.",
            PromisesOnTheDraft::addsAKey);
        promise.say("BAD if there is no such output;", PromisesOnTheDraft::keyOfNoOutput);
        promise.say("FULL.", PromisesOnTheDraft::keysFull);
    }

    static void limit(Sentences promise) {
        promise.say("Sets DISTINCT and the LIMIT.", PromisesOnTheDraft::setsBoth);
        promise.say("False, changing nothing, if limit is outside 0..60.", PromisesOnTheDraft::limitOutside);
    }

    static void wipe(Sentences promise) {
        promise.say("Makes the draft empty as at first;", PromisesOnTheDraft::emptyAsAtFirst);
        promise.say("answers how many sources it had.", PromisesOnTheDraft::howManySources);
    }

    private static void addsASource() {
        TableEngine x = Made.rows(2, 2);
        Made.fill(x, 0, 3);
        Due.is("the first", x.source(2), 0);
        x.output(1, 0, 0);
        Due.result("table 2", x, 1, 2);
        Due.is("the second", x.source(0), 1);
        Due.result("tables 2 and 0", x, 1, 6);
        Due.is("the third", x.source(0), 2);
        Due.result("tables 2, 0 and 0", x, 1, 18);
    }

    private static void sourceOutside() {
        TableEngine x = new TableEngine();
        for (int t : Made.OUTSIDE) {
            Due.is("table " + t, x.source(t), Due.BAD);
        }
        Due.is("none was added", x.source(2), 0);
        Due.is("table 3", x.source(3), Due.BAD);
        Due.is("just one was added", x.wipe(), 1);
    }

    private static void sourcesFull() {
        TableEngine x = Made.rows(0, 2);
        for (int s = 0; s < 3; s++) {
            x.source(0);
            x.output(0, s, 0);
        }
        for (int t = 0; t < 3; t++) {
            Due.is("a fourth, table " + t, x.source(t), Due.FULL);
        }
        Due.is("the three are as before", x.run(), 8);
        Due.is("three", x.wipe(), 3);
        Due.is("then there is room again", x.source(1), 0);
    }

    private static void addsACondition() {
        TableEngine x = Made.rows(0, 10);
        x.source(0);
        x.output(1, 0, 0);
        for (int i = 1; i <= 6; i++) {
            Due.is("condition " + i, x.condition(0, i % 3, 2, false, 10 - i), i);
            Due.result("with it", x, 1, 10 - i);
        }
    }

    private static void conditionOnNoSource() {
        TableEngine x = Made.rows(0, 2);
        for (int sources = 0; sources <= 3; sources++) {
            for (int op = 0; op <= 5; op++) {
                Due.is("source -1 of " + sources, x.condition(-1, 0, op, false, 0), Due.BAD);
                Due.is("source " + sources + " of " + sources, x.condition(sources, 0, op, false, 0), Due.BAD);
                Due.is("source least of " + sources, x.condition(MIN, 0, op, false, 0), Due.BAD);
                Due.is("source greatest of " + sources, x.condition(MAX, 0, op, false, 0), Due.BAD);
            }
            x.source(0);
        }
        Due.is("3 * this is 2 once it wraps", x.condition(0x55555556, 0, 0, false, 0), Due.BAD);
        Due.is("source 1, column -1 is not source 0, column 2", x.condition(1, -1, 0, false, 0), Due.BAD);
        x.output(1, 0, 0);
        Due.result("none was added", x, 1, 8);
        Due.is("the last source", x.condition(2, 0, 0, false, 0), 1);
    }

    private static void conditionColumnOutside() {
        TableEngine x = Made.rows(0, 2);
        x.source(0);
        x.source(0);
        for (int c : Made.OUTSIDE) {
            Due.is("column " + c, x.condition(0, c, 0, false, 9), Due.BAD);
            Due.is("column " + c + " is not NULL", x.condition(1, c, 5, false, 9), Due.BAD);
        }
        x.output(1, 0, 0);
        Due.result("none was added", x, 1, 4);
        Due.is("the last column", x.condition(1, 2, 0, false, 9), 1);
    }

    private static void opOutside() {
        TableEngine x = Made.rows(0, 2);
        x.source(0);
        int[] outside = {-1, 6, 7, MIN, MAX, 256};
        for (int op : outside) {
            Due.is("op " + op, x.condition(0, 0, op, false, 9), Due.BAD);
            Due.is("op " + op + ", a column", x.condition(0, 0, op, true, 1), Due.BAD);
        }
        x.output(1, 0, 0);
        Due.result("none was added", x, 1, 2);
        for (int op = 0; op <= 5; op++) {
            Due.is("op " + op, x.condition(0, 0, op, false, 9), op + 1);
        }
    }

    private static void secondColumnOutside() {
        for (int sources = 1; sources <= 3; sources++) {
            TableEngine x = Made.rows(0, 1);
            for (int s = 0; s < sources; s++) {
                x.source(0);
            }
            int[] outside = {-1, 3 * sources, 3 * sources + 1, MIN, MAX};
            for (int v : outside) {
                for (int op = 0; op <= 5; op++) {
                    String what = "second column " + v + " of " + sources + " sources, op " + op;
                    Due.is(what, x.condition(0, 0, op, true, v), Due.BAD);
                }
            }
            x.output(1, 0, 0);
            Due.result("none was added", x, 1, 1);
            Due.is("the first", x.condition(0, 0, 0, true, 0), 1);
            Due.is("the last", x.condition(0, 0, 0, true, 3 * sources - 1), 2);
            for (int i = 0; i < 4; i++) {
                Due.is("as an int it may be anything", x.condition(0, 0, 1, false, outside[i + 1]), i + 3);
            }
            Due.result("all were added", x, 1, 1);
        }
    }

    private static void conditionsFull() {
        TableEngine x = Made.rows(0, 2);
        x.source(0);
        x.output(1, 0, 0);
        for (int i = 0; i < 6; i++) {
            x.condition(0, 0, 5, false, 0);
        }
        for (int op = 0; op <= 5; op++) {
            Due.is("a seventh, op " + op, x.condition(0, 0, op, false, 9), Due.FULL);
            Due.is("a seventh, a column, op " + op, x.condition(0, 0, op, true, 2), Due.FULL);
        }
        Due.result("the six are as before", x, 1, 2);
        Made.only(x, 0);
        Due.is("then there is room again", x.condition(0, 0, 5, false, 0), 1);
    }

    private static void theSecondOne() {
        for (int v = 0; v < 9; v++) {
            TableEngine x = new TableEngine();
            for (int t = 0; t < 3; t++) {
                x.insert(t, 3 * t + 20, 3 * t + 21, 3 * t + 22, 0);
                x.insert(t, v, v, v, 0);
                x.source(t);
            }
            x.condition(0, 0, 1, false, v);
            x.condition(1, 0, 1, false, v);
            x.condition(2, 0, 1, false, v);
            x.condition(v / 3, v % 3, 0, false, v + 20);
            x.output(1, 0, 0);
            Due.result("the int " + v, x, 1, 1);
            x.condition(v / 3, v % 3, 0, true, v);
            Due.result("column " + v, x, 1, 1);
            x.condition(v / 3, v % 3, 0, true, (v + 1) % 9);
            Due.result("the column behind " + v, x, 1, 0);
        }
    }

    private static void addsAnOutput() {
        TableEngine x = new TableEngine();
        x.insert(0, 4, 5, 6, 0);
        x.insert(1, 7, 8, 9, 0);
        x.source(0);
        x.source(1);
        int[] columns = {5, 0, 3, 1};
        long[] due = {9, 4, 7, 5};
        for (int k = 0; k < 4; k++) {
            Due.is("output " + k, x.output(k % 2 == 0 ? 0 : 3, columns[k] / 3, columns[k] % 3), k);
            Due.is("it is there", x.run(), 1);
            Due.is("it is there", x.cell(0, k), due[k]);
        }
    }

    private static void kindOutside() {
        TableEngine x = Made.rows(0, 1);
        x.source(0);
        int[] outside = {-1, 7, 8, MIN, MAX, 256};
        for (int kind : outside) {
            Due.is("kind " + kind, x.output(kind, 0, 0), Due.BAD);
        }
        Due.is("none was added", x.run(), Due.BAD);
        for (int kind = 0; kind <= 6; kind++) {
            Made.only(x, 0);
            Due.is("kind " + kind, x.output(kind, 0, 0), 0);
        }
    }

    private static void outputOfNoSource() {
        TableEngine x = Made.rows(0, 1);
        for (int sources = 0; sources <= 3; sources++) {
            for (int kind = 0; kind <= 6; kind++) {
                if (kind != 1) {
                    Due.is("source -1 of " + sources + ", kind " + kind, x.output(kind, -1, 0), Due.BAD);
                    Due.is("the one behind " + sources + ", kind " + kind, x.output(kind, sources, 0), Due.BAD);
                    Due.is("source least, kind " + kind, x.output(kind, MIN, 0), Due.BAD);
                    Due.is("source greatest, kind " + kind, x.output(kind, MAX, 0), Due.BAD);
                    Due.is("3 * this is 2, kind " + kind, x.output(kind, 0x55555556, 0), Due.BAD);
                }
            }
            x.source(0);
        }
        Due.is("none was added", x.run(), Due.BAD);
        Due.is("the last source", x.output(0, 2, 0), 0);
    }

    private static void outputColumnOutside() {
        TableEngine x = Made.rows(0, 1);
        x.source(0);
        x.source(0);
        for (int kind = 0; kind <= 6; kind++) {
            for (int c : Made.OUTSIDE) {
                if (kind != 1) {
                    Due.is("column " + c + ", kind " + kind, x.output(kind, 0, c), Due.BAD);
                    Due.is("column " + c + ", kind " + kind, x.output(kind, 1, c), Due.BAD);
                }
            }
        }
        Due.is("none was added", x.run(), Due.BAD);
        Due.is("the last column", x.output(0, 1, 2), 0);
    }

    private static void kindOneNeedsNone() {
        TableEngine x = Made.rows(0, 3);
        Due.is("no source", x.output(1, 0, 0), 0);
        Due.is("no source, anything", x.output(1, MIN, MAX), 1);
        Due.is("there is nothing to run", x.run(), Due.BAD);
        x.source(0);
        Due.is("no such source", x.output(1, 1, 0), 2);
        Due.is("no such column", x.output(1, 0, -1), 3);
        Due.result("all the same", x, 4, 3, 3, 3, 3);
    }

    private static void outputsFull() {
        TableEngine x = Made.rows(0, 1);
        x.source(0);
        for (int k = 0; k < 4; k++) {
            x.output(0, 0, k % 3);
        }
        for (int kind = 0; kind <= 6; kind++) {
            Due.is("a fifth, kind " + kind, x.output(kind, 0, 0), Due.FULL);
        }
        Due.is("a fifth, kind 1, no source", x.output(1, 9, 9), Due.FULL);
        Due.result("the four are as before", x, 4, 0, 0, 0, 0);
        Made.only(x, 0);
        Due.is("then there is room again", x.output(0, 0, 0), 0);
    }

    private static void addsAKey() {
        TableEngine x = new TableEngine();
        x.insert(0, 1, 5, 0, 0);
        x.insert(0, 2, 5, 0, 0);
        x.insert(0, 3, 4, 0, 0);
        x.source(0);
        x.output(0, 0, 0);
        x.output(0, 0, 1);
        Due.is("one, falling", x.key(1, true), 1);
        Due.result("by output 1", x, 2, 1, 5, 2, 5, 3, 4);
        Due.is("two, falling", x.key(0, true), 2);
        Due.result("then by output 0", x, 2, 2, 5, 1, 5, 3, 4);
        Made.only(x, 0);
        x.output(0, 0, 0);
        x.output(0, 0, 1);
        Due.is("one, rising", x.key(1, false), 1);
        Due.result("by output 1", x, 2, 3, 4, 1, 5, 2, 5);
    }

    private static void keyOfNoOutput() {
        TableEngine x = Made.rows(0, 3);
        x.source(0);
        for (int outputs = 0; outputs <= 4; outputs++) {
            int[] none = {-1, outputs, outputs + 1, MIN, MAX};
            for (int k : none) {
                Due.is("output " + k + " of " + outputs, x.key(k, true), Due.BAD);
            }
            x.output(0, 0, 0);
        }
        Due.is("rows", x.run(), 3);
        Due.is("none was added", x.cell(0, 0), 0);
        Due.is("the last output", x.key(3, true), 1);
        Due.is("the first output", x.key(0, true), 2);
    }

    private static void keysFull() {
        TableEngine x = new TableEngine();
        x.insert(0, 1, 1, 1, 0);
        x.insert(0, 1, 1, 2, 0);
        x.source(0);
        for (int k = 0; k < 3; k++) {
            x.output(0, 0, k);
        }
        x.key(0, false);
        x.key(1, false);
        for (int k = 0; k < 3; k++) {
            Due.is("a third, output " + k, x.key(k, true), Due.FULL);
        }
        Due.result("the two are as before", x, 3, 1, 1, 1, 1, 1, 2);
        Made.only(x, 0);
        x.output(0, 0, 2);
        Due.is("then there is room again", x.key(0, true), 1);
        Due.result("by it alone", x, 1, 2, 1);
    }

    /** 60 combinations with 15 different values in the only output. */
    private static TableEngine sixty() {
        TableEngine x = Made.rows(0, 15);
        Made.fill(x, 1, 4);
        x.source(0);
        x.source(1);
        x.output(0, 0, 0);
        return x;
    }

    private static void setsBoth() {
        TableEngine x = sixty();
        int[] limits = {60, 0, 1, 14, 15, 16, 59, 60};
        for (int limit : limits) {
            Due.is("LIMIT " + limit, x.limit(limit, false), true);
            Due.is("LIMIT " + limit, x.run(), limit);
            Due.is("LIMIT " + limit + ", DISTINCT", x.limit(limit, true), true);
            Due.is("LIMIT " + limit + ", DISTINCT", x.run(), limit < 15 ? limit : 15);
        }
    }

    private static void limitOutside() {
        TableEngine x = sixty();
        int[] outside = {-1, 61, 62, MIN, MAX, 256, 1 << 16};
        for (int limit : outside) {
            Due.is("LIMIT " + limit + ", DISTINCT", x.limit(limit, true), false);
            Due.is("as at first", x.run(), 60);
        }
        x.limit(7, true);
        for (int limit : outside) {
            Due.is("LIMIT " + limit + ", not DISTINCT", x.limit(limit, false), false);
            Due.is("7", x.run(), 7);
            Due.is("DISTINCT", x.cell(6, 0), 6);
        }
    }

    private static void emptyAsAtFirst() {
        TableEngine x = sixty();
        x.condition(0, 0, 4, false, 0);
        x.output(0, 1, 0);
        x.key(1, true);
        x.limit(0, true);
        x.wipe();
        Due.is("no source to run", x.run(), Due.BAD);
        Due.is("no source to erase", x.erase(), Due.BAD);
        Due.is("no source for a condition", x.condition(0, 0, 0, false, 0), Due.BAD);
        Due.is("no output for a key", x.key(0, false), Due.BAD);
        Due.is("the first source", x.source(0), 0);
        Due.is("no output to run", x.run(), Due.BAD);
        x.source(1);
        Due.is("the first output", x.output(0, 0, 0), 0);
        Due.is("no condition, LIMIT 60, not DISTINCT", x.run(), 60);
        Due.is("no key", x.cell(59, 0), 14);
        Due.is("the first condition", x.condition(0, 0, 5, false, 0), 1);
        Due.is("the first key", x.key(0, false), 1);
        Due.is("rows are as before", x.rows(0), 15);
    }

    private static void howManySources() {
        TableEngine x = new TableEngine();
        Due.is("none at first", x.wipe(), 0);
        for (int sources = 0; sources <= 3; sources++) {
            for (int s = 0; s < sources; s++) {
                x.source(s);
            }
            Due.is("wipe", x.wipe(), sources);
            Due.is("wipe again", x.wipe(), 0);
        }
    }
}
