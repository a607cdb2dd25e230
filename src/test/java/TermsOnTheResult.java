/** What the terms say of outputs and of the result. */
final class TermsOnTheResult {
    private static final int MIN = Made.MIN, MAX = Made.MAX;
    private static final long N = Made.N;

    private TermsOnTheResult() {
    }

    static void all(Sentences terms) {
        terms.say("OUTPUTS kind: 0 the value in column c of source s;", TermsOnTheResult::values);
        terms.say("1 how many combinations;", TermsOnTheResult::combinations);
        terms.say("of the ints in column c of source s: 2 how many,", TermsOnTheResult::howMany);
        terms.say("3 their sum,", TermsOnTheResult::sums);
        terms.say("4 the least, 5 the greatest,", TermsOnTheResult::leastAndGreatest);
        terms.say("6 how many different ones", TermsOnTheResult::differentInts);
        terms.say("(3 to 5: NULL if there are none).", TermsOnTheResult::noInts);
        terms.say("THE RESULT. If all outputs have kind 0: a row for every combination that holds.",
            TermsOnTheResult::everyCombination);
        terms.say("Else these combinations make groups that have the same values (NULL like NULL) in all outputs of "
            + "kind 0,", TermsOnTheResult::groups);
        terms.say("and there is a row for every group, in the order of their first combinations;",
            TermsOnTheResult::orderOfGroups);
        terms.say("if no output has kind 0, just one row, also if no combination holds.", TermsOnTheResult::oneRow);
        terms.say("DISTINCT: of the same rows just the first one.", TermsOnTheResult::distinct);
        String tooMany = "TOO_MANY if there are more than 60 rows.";
        terms.say(tooMany, TermsOnTheResult::tooManyRows);
        terms.say(tooMany, TermsOnTheResult::tooManyGroups);
        terms.say("DISTINCT: of the same rows just the first one. " + tooMany, TermsOnTheResult::tooManyDistinct);
        terms.say(tooMany + " Then", TermsOnTheResult::tooManyBeforeLimit);
        terms.say("Then they are ordered by the KEYS (the first one first;", TermsOnTheResult::firstKeyFirst);
        terms.say("NULL comes before all ints, behind them where the key falls;", TermsOnTheResult::nullInOrder);
        terms.say("where all keys are the same the order stays),", TermsOnTheResult::orderStays);
        terms.say("Then they are ordered by the KEYS", TermsOnTheResult::sixtyOrdered);
        String limit = "and just the first LIMIT of them stay.";
        terms.say(limit, TermsOnTheResult::limits);
        terms.say(limit, TermsOnTheResult::limitOfOrdered);
    }

    /** Column 0 of table 0 as the only source, with an int or a NULL in each row; column 1 has the row's number. */
    private static TableEngine of(long... values) {
        TableEngine x = new TableEngine();
        for (int i = 0; i < values.length; i++) {
            x.insert(0, (int) values[i], i, 0, values[i] == N ? 1 : 0);
        }
        x.source(0);
        return x;
    }

    private static void values() {
        TableEngine x = of(MIN, N, MAX);
        x.output(0, 0, 0);
        x.output(0, 0, 1);
        x.output(0, 0, 0);
        Due.result("as they stand there", x, 3, MIN, 0, MIN, N, 1, N, MAX, 2, MAX);
    }

    private static void combinations() {
        TableEngine x = of(N, N, 5);
        x.output(1, 0, 0);
        x.output(1, MIN, MAX);
        Due.result("NULL or not, whatever s and c are", x, 2, 3, 3);
        x.source(0);
        Due.result("of two sources", x, 2, 9, 9);
        x.condition(1, 0, 5, false, 0);
        Due.result("just those that hold", x, 2, 3, 3);
    }

    private static void howMany() {
        TableEngine x = of(N, 5, 5, N, 0);
        x.output(2, 0, 0);
        x.output(2, 0, 1);
        Due.result("ints, the same ones too", x, 2, 3, 5);
        x.source(0);
        x.output(2, 1, 0);
        Due.result("in every combination", x, 3, 15, 25, 15);
    }

    private static void sums() {
        long[][] ints = {{0}, {5, -5}, {MAX, 1}, {MIN, -1}, {MAX, MAX, MAX}, {MIN, MIN}, {N, 7, N}, {MIN, MAX}};
        long[] due = {0, 0, 2147483648L, -2147483649L, 6442450941L, -4294967296L, 7, -1};
        for (int i = 0; i < ints.length; i++) {
            TableEngine x = of(ints[i]);
            x.output(3, 0, 0);
            Due.result("sum " + i, x, 1, due[i]);
        }
        for (int v = MIN; v != 0; v = v == MIN ? MAX : 0) {
            TableEngine x = of(v, v, v, v, v, v, v, v, v, v, v, v, v, v, v, v);
            x.source(0);
            x.source(0);
            x.output(3, 0, 0);
            x.output(3, 2, 0);
            Due.result("4096 times " + v, x, 2, 4096L * v, 4096L * v);
        }
    }

    private static void leastAndGreatest() {
        long[][] ints = {{3}, {MAX, MIN}, {MIN, MAX}, {0, -1, 1}, {-3, -2, -9}, {N, 4, N, 6}, {7, 7, 7}};
        long[][] due = {{3, 3}, {MIN, MAX}, {MIN, MAX}, {-1, 1}, {-9, -2}, {4, 6}, {7, 7}};
        for (int i = 0; i < ints.length; i++) {
            TableEngine x = of(ints[i]);
            x.output(4, 0, 0);
            x.output(5, 0, 0);
            Due.result("least and greatest " + i, x, 2, due[i]);
        }
    }

    private static void differentInts() {
        long[][] ints = {{}, {N, N}, {0}, {4, 4, 4}, {MIN, MAX, 0, MIN}, {5, N, 5, 6, N, 6, 5},
            {1, 2, 3, 4, 5, 6, 7, 8, 9, 10, 11, 12, 13, 14, 15, 16}};
        long[] due = {0, 0, 1, 1, 3, 2, 16};
        for (int i = 0; i < ints.length; i++) {
            TableEngine x = of(ints[i]);
            x.output(6, 0, 0);
            Due.result("different ones " + i, x, 1, due[i]);
            x.source(0);
            x.source(0);
            x.output(6, 2, 0);
            Due.result("different ones " + i + ", of three sources", x, 2, due[i], due[i]);
        }
        for (int column = 0; column < 9; column++) {
            TableEngine x = new TableEngine();
            Made.put(x, column, 4, 5, 4, 6, 5);
            x.source(column / 3);
            x.output(6, 0, column % 3);
            Due.result("different ones in column " + column, x, 1, 3);
        }
        TableEngine x = of(1, 1, 2, 3, 3, 3);
        x.source(0);
        x.condition(0, 0, 3, true, 3);
        x.output(0, 0, 0);
        x.output(6, 1, 0);
        x.output(6, 1, 1);
        Due.result("of each group", x, 3, 1, 3, 6, 2, 2, 4, 3, 1, 3);
    }

    private static void noInts() {
        for (int kind = 1; kind <= 6; kind++) {
            long none = kind >= 3 && kind <= 5 ? N : 0;
            TableEngine x = of();
            x.output(kind, 0, 0);
            Due.result("no row, kind " + kind, x, 1, none);
            x = of(N, N);
            x.output(kind, 0, 0);
            Due.result("just NULLs, kind " + kind, x, 1, kind == 1 ? 2 : none);
            x = of(1, 2);
            x.output(kind, 0, 0);
            x.condition(0, 0, 4, false, 0);
            Due.result("none holds, kind " + kind, x, 1, none);
            x = of(N, 0);
            x.output(kind, 0, 0);
            x.output(0, 0, 1);
            Due.result("none in one of two groups, kind " + kind, x, 2,
                kind == 1 ? 1 : none, 0, kind >= 3 && kind <= 5 ? 0 : 1, 1);
        }
    }

    private static void everyCombination() {
        TableEngine x = of(4, 4, N, N);
        x.output(0, 0, 0);
        Due.result("the same rows too", x, 1, 4, 4, N, N);
        x.condition(0, 0, 5, false, 0);
        Due.result("that holds", x, 1, 4, 4);
        x.condition(0, 1, 0, false, 9);
        Due.result("none holds", x, 1);
        x.wipe();
        x.source(1);
        x.output(0, 0, 0);
        Due.result("no row", x, 1);
    }

    private static void groups() {
        TableEngine x = new TableEngine();
        x.insert(0, 0, 1, 10, 1);
        x.insert(0, 0, 1, 20, 0);
        x.insert(0, 0, 1, 40, 3);
        x.insert(0, 9, 1, 80, 1);
        x.insert(0, 9, 9, 160, 3);
        x.insert(0, 0, 2, 320, 0);
        x.source(0);
        x.output(3, 0, 2);
        x.output(0, 0, 0);
        Due.result("NULL like NULL and not like 0", x, 2, 290, N, 340, 0);
        x.output(0, 0, 1);
        Due.result("the same in both", x, 3, 90, N, 1, 20, 0, 1, 200, N, N, 320, 0, 2);
        x.condition(0, 2, 2, false, 10);
        Due.result("no combination, no group", x, 3);
    }

    private static void orderOfGroups() {
        TableEngine x = of(5, N, 3, 5, 7, 3, N);
        x.output(0, 0, 0);
        x.output(4, 0, 1);
        x.output(5, 0, 1);
        Due.result("their first ones", x, 3, 5, 0, 3, N, 1, 6, 3, 2, 5, 7, 4, 4);
        x.condition(0, 1, 1, false, 0);
        Due.result("the first ones that hold", x, 3, N, 1, 6, 3, 2, 5, 5, 3, 3, 7, 4, 4);
    }

    private static void oneRow() {
        TableEngine x = of(1, 2);
        x.output(1, 0, 0);
        x.output(3, 0, 0);
        Due.result("all in one", x, 2, 2, 3);
        x.condition(0, 0, 4, false, 0);
        Due.result("none holds", x, 2, 0, N);
        x.source(1);
        Due.result("a source without rows", x, 2, 0, N);
        x.limit(60, true);
        Due.result("DISTINCT", x, 2, 0, N);
        x.limit(0, false);
        Due.result("LIMIT 0", x, 2);
    }

    private static void distinct() {
        TableEngine x = of(5, N, 3, 5, N, 3, 4);
        x.output(0, 0, 0);
        x.limit(60, true);
        Due.result("the first ones, NULL like NULL", x, 1, 5, N, 3, 4);
        x.output(0, 0, 2);
        Due.result("the same in both", x, 2, 5, 0, N, 0, 3, 0, 4, 0);
        x.output(0, 0, 1);
        Due.is("one differs", x.run(), 7);
        x.wipe();
        x.source(0);
        x.output(2, 0, 0);
        x.output(0, 0, 0);
        x.limit(60, true);
        Due.result("groups are different", x, 2, 2, 5, 0, N, 2, 3, 1, 4);
    }

    /**
     * Combinations that hold: 4 for each of the first 15 rows of source 0, and for the last one as many as asked,
     * 0 or 1. Columns 0 of both sources tell them apart.
     */
    private static TableEngine sixtyAnd(int more) {
        TableEngine x = new TableEngine();
        for (int i = 0; i < 16; i++) {
            x.insert(0, i, i < 15 ? 4 : more, 0, 0);
        }
        Made.fill(x, 1, 4);
        x.source(0);
        x.source(1);
        x.condition(1, 0, 2, true, 1);
        return x;
    }

    private static void tooManyRows() {
        TableEngine x = sixtyAnd(0);
        x.output(0, 0, 0);
        Due.is("60", x.run(), 60);
        Due.is("the last", x.cell(59, 0), 14);
        x = sixtyAnd(1);
        x.output(0, 0, 0);
        Due.is("61", x.run(), Due.TOO_MANY);
        x.source(0);
        x.limit(60, false);
        Due.is("976", x.run(), Due.TOO_MANY);
    }

    private static void tooManyGroups() {
        for (int more = 0; more <= 1; more++) {
            TableEngine x = sixtyAnd(more);
            x.output(1, 0, 0);
            x.output(0, 0, 0);
            Due.is("61 combinations, 16 groups", x.run(), 15 + more);
            x.output(0, 1, 0);
            Due.is("60 or 61 groups", x.run(), more == 0 ? 60 : Due.TOO_MANY);
            Due.is("a cell of the last but one", x.cell(58, 0), more == 0 ? 1 : N);
            x.source(1);
            Due.is("of 4 combinations each", x.run(), more == 0 ? 60 : Due.TOO_MANY);
            Due.is("a cell of the last", x.cell(59, 0), more == 0 ? 4 : N);
        }
    }

    private static void tooManyDistinct() {
        for (int more = 0; more <= 1; more++) {
            TableEngine x = sixtyAnd(more);
            x.output(0, 0, 0);
            x.limit(60, true);
            Due.is("15 or 16 different ones of 60 or 61", x.run(), 15 + more);
            x.output(0, 1, 0);
            Due.is("60 or 61 different ones", x.run(), more == 0 ? 60 : Due.TOO_MANY);
            x.source(1);
            Due.is("60 or 61 of 240 or 244", x.run(), more == 0 ? 60 : Due.TOO_MANY);
        }
    }

    private static void tooManyBeforeLimit() {
        for (int limit = 0; limit <= 60; limit += 30) {
            TableEngine x = sixtyAnd(1);
            x.output(0, 0, 0);
            x.limit(limit, false);
            Due.is("61 rows, LIMIT " + limit, x.run(), Due.TOO_MANY);
            x = sixtyAnd(0);
            x.output(0, 0, 0);
            x.limit(limit, false);
            Due.is("60 rows, LIMIT " + limit, x.run(), limit);
        }
    }

    private static TableEngine pairs() {
        TableEngine x = new TableEngine();
        int[] pairs = {12, 21, 11, 22, 20, 10};
        for (int pair : pairs) {
            x.insert(0, pair / 10, pair % 10, pair, pair % 10 == 0 ? 2 : 0);
        }
        x.source(0);
        for (int k = 0; k < 3; k++) {
            x.output(0, 0, k);
        }
        return x;
    }

    /** The order that the keys of two outputs make of the pairs. */
    private static void ordered(int k, boolean kFalls, int l, boolean lFalls, long... due) {
        TableEngine x = pairs();
        x.key(k, kFalls);
        x.key(l, lFalls);
        String what = "output " + k + (kFalls ? " falling" : "") + ", then " + l + (lFalls ? " falling" : "");
        Due.is(what, x.run(), 6);
        for (int i = 0; i < 6; i++) {
            Due.is(what + ", row " + i, x.cell(i, 2), due[i]);
        }
    }

    private static void firstKeyFirst() {
        ordered(0, false, 1, false, 10, 11, 12, 20, 21, 22);
        ordered(0, false, 1, true, 12, 11, 10, 22, 21, 20);
        ordered(0, true, 1, false, 20, 21, 22, 10, 11, 12);
        ordered(0, true, 1, true, 22, 21, 20, 12, 11, 10);
        ordered(1, false, 0, false, 10, 20, 11, 21, 12, 22);
        ordered(1, true, 0, false, 12, 22, 11, 21, 10, 20);
        ordered(0, true, 0, false, 21, 22, 20, 12, 11, 10);
    }

    private static void sixtyOrdered() {
        TableEngine x = sixtyAnd(0);
        int[] columns = {0, 1, 3, 4};
        for (int column : columns) {
            x.output(0, column / 3, column % 3);
        }
        x.key(2, false);
        x.key(0, true);
        Due.is("60 rows of four outputs", x.run(), 60);
        for (int i = 0; i < 60; i++) {
            Due.is("row " + i + ", output 0", x.cell(i, 0), 14 - i % 15);
            Due.is("row " + i + ", output 1", x.cell(i, 1), 4);
            Due.is("row " + i + ", output 2", x.cell(i, 2), i / 15);
            Due.is("row " + i + ", output 3", x.cell(i, 3), i / 15);
        }
    }

    private static void nullInOrder() {
        TableEngine x = of(0, N, MIN, MAX, N, -1);
        x.output(0, 0, 0);
        Due.result("no key", x, 1, 0, N, MIN, MAX, N, -1);
        x.key(0, false);
        Due.result("rising", x, 1, N, N, MIN, -1, 0, MAX);
        Made.only(x, 0);
        x.output(0, 0, 0);
        x.key(0, true);
        Due.result("falling", x, 1, MAX, 0, -1, MIN, N, N);
        x = of(N, MIN, MIN, MIN, MAX, MAX, MAX);
        x.output(0, 0, 0);
        x.output(3, 0, 0);
        x.key(1, true);
        Due.result("sums, falling", x, 2, MAX, 3L * MAX, MIN, 3L * MIN, N, N);
    }

    private static void orderStays() {
        TableEngine x = of(2, N, 1, 2, N, 1, 2, 1);
        x.output(0, 0, 0);
        x.output(0, 0, 1);
        x.key(0, false);
        Due.result("rising", x, 2, N, 1, N, 4, 1, 2, 1, 5, 1, 7, 2, 0, 2, 3, 2, 6);
        Made.only(x, 0);
        x.output(0, 0, 0);
        x.output(0, 0, 1);
        x.key(0, true);
        Due.result("falling", x, 2, 2, 0, 2, 3, 2, 6, 1, 2, 1, 5, 1, 7, N, 1, N, 4);
    }

    private static void limits() {
        for (int limit = 0; limit <= 60; limit++) {
            TableEngine x = sixtyAnd(0);
            x.output(0, 0, 0);
            x.limit(limit, false);
            Due.is("LIMIT " + limit, x.run(), limit);
            Due.is("the last that stays, LIMIT " + limit, x.cell(limit - 1, 0), limit == 0 ? N : (limit - 1) / 4);
            Due.is("the first that doesn't, LIMIT " + limit, x.cell(limit, 0), N);
        }
        for (int limit = 2; limit <= 4; limit++) {
            TableEngine x = of(1, 2, 3);
            x.output(0, 0, 0);
            x.limit(limit, false);
            Due.is("3 rows, LIMIT " + limit, x.run(), limit < 3 ? limit : 3);
        }
    }

    private static void limitOfOrdered() {
        TableEngine x = of(3, 1, 3, 2);
        x.output(0, 0, 0);
        x.limit(2, false);
        Due.result("no key", x, 1, 3, 1);
        x.key(0, false);
        Due.result("rising", x, 1, 1, 2);
        x.limit(2, true);
        Due.result("rising, DISTINCT", x, 1, 1, 2);
        x.limit(1, true);
        Due.result("one", x, 1, 1);
    }
}
