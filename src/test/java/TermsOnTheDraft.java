/** What the terms say of the draft, conditions and combinations. */
final class TermsOnTheDraft {
    private static final int MIN = Made.MIN, MAX = Made.MAX;
    private static final long N = Made.N;

    private TermsOnTheDraft() {
    }

    static void all(Sentences terms) {
        String sources = "THE DRAFT has up to 3 SOURCES 0, 1, 2, each a table "
            + "(the same one may be there several times),";
        terms.say(sources, TermsOnTheDraft::threeSources);
        terms.say(sources, TermsOnTheDraft::sameTable);
        terms.say("up to 6 CONDITIONS,", TermsOnTheDraft::sixConditions);
        terms.say("up to 4 OUTPUTS,", TermsOnTheDraft::fourOutputs);
        terms.say("up to 2 KEYS,", TermsOnTheDraft::twoKeys);
        terms.say("a LIMIT (60 at first)", TermsOnTheDraft::limitAtFirst);
        terms.say("and says whether rows are to be DISTINCT (at first not).", TermsOnTheDraft::distinctAtFirst);
        terms.say("A CONDITION compares column c of source s with an int or with a column of a source:",
            TermsOnTheDraft::intOrColumn);
        terms.say("op 0 =, 1 not =, 2 <, 3 <=: it is true if both are ints and it is so;",
            TermsOnTheDraft::comparisons);
        terms.say("4: true if the first one is NULL, 5: if it is not (the second one isn't looked at).",
            TermsOnTheDraft::nullOrNot);
        terms.say("A COMBINATION is a row of each source;", TermsOnTheDraft::rowOfEachSource);
        terms.say("it HOLDS if all conditions are true.", TermsOnTheDraft::allConditions);
        terms.say("Combinations stand in the order of source 0's rows, then of source 1's, then of source 2's.",
            TermsOnTheDraft::order);
    }

    private static void threeSources() {
        TableEngine x = new TableEngine();
        for (int t = 0; t < 3; t++) {
            x.insert(t, t + 5, 0, 0, 0);
        }
        Due.is("source 0", x.source(2), 0);
        Due.is("source 1", x.source(0), 1);
        Due.is("source 2", x.source(1), 2);
        Due.is("no source 3", x.source(1), Due.FULL);
        for (int s = 0; s < 3; s++) {
            x.output(0, s, 0);
        }
        Due.is("no output of source 3", x.output(0, 3, 0), Due.BAD);
        Due.result("each its table", x, 3, 7, 5, 6);
        Due.is("still three", x.wipe(), 3);
    }

    private static void sameTable() {
        TableEngine x = Made.rows(1, 2);
        for (int s = 0; s < 3; s++) {
            x.source(1);
            x.output(0, s, s);
        }
        Due.result("each has rows of its own", x, 3,
            0, 0, 0, 0, 0, 1, 0, 1, 0, 0, 1, 1, 1, 0, 0, 1, 0, 1, 1, 1, 0, 1, 1, 1);
    }

    private static void sixConditions() {
        TableEngine x = Made.rows(0, 8);
        x.source(0);
        x.output(1, 0, 0);
        for (int i = 1; i <= 6; i++) {
            Due.is("condition " + i, x.condition(0, 0, 1, false, i), i);
            Due.result("with " + i, x, 1, 8 - i);
        }
        Due.is("a seventh", x.condition(0, 0, 1, false, 7), Due.FULL);
        Due.result("it isn't there", x, 1, 2);
    }

    private static void fourOutputs() {
        TableEngine x = new TableEngine();
        x.insert(0, 6, 7, 8, 0);
        x.source(0);
        for (int k = 0; k < 3; k++) {
            Due.is("output " + k, x.output(0, 0, k), k);
        }
        Due.is("output 3", x.output(1, 0, 0), 3);
        Due.is("no output 4", x.output(3, 0, 0), Due.FULL);
        Due.is("no key of output 4", x.key(4, false), Due.BAD);
        Due.result("four", x, 4, 6, 7, 8, 1);
    }

    private static void twoKeys() {
        TableEngine x = new TableEngine();
        x.insert(0, 1, 1, 1, 0);
        x.insert(0, 1, 1, 2, 0);
        x.insert(0, 1, 2, 3, 0);
        x.source(0);
        for (int k = 0; k < 3; k++) {
            x.output(0, 0, k);
        }
        Due.is("one", x.key(0, true), 1);
        Due.is("two", x.key(1, true), 2);
        Due.is("a third", x.key(2, true), Due.FULL);
        Due.result("it isn't there", x, 3, 1, 2, 3, 1, 1, 1, 1, 1, 2);
    }

    /** 15 rows by 4 rows, all with the same values. */
    private static TableEngine sixtyAlike() {
        TableEngine x = new TableEngine();
        for (int i = 0; i < 19; i++) {
            x.insert(i < 15 ? 0 : 1, 5, 5, 5, 0);
        }
        x.source(0);
        x.source(1);
        x.output(0, 1, 0);
        return x;
    }

    private static void limitAtFirst() {
        TableEngine x = sixtyAlike();
        Due.is("60 rows", x.run(), 60);
        Due.is("the last", x.cell(59, 0), 5);
        x.limit(59, false);
        Due.is("another LIMIT", x.run(), 59);
        x.wipe();
        x.source(0);
        x.source(1);
        x.output(0, 1, 0);
        Due.is("at first again", x.run(), 60);
    }

    private static void distinctAtFirst() {
        TableEngine x = sixtyAlike();
        Due.is("not DISTINCT", x.run(), 60);
        x.limit(60, true);
        Due.result("DISTINCT", x, 1, 5);
        x.limit(60, false);
        Due.is("not any more", x.run(), 60);
    }

    private static void intOrColumn() {
        for (int first = 0; first < 9; first++) {
            for (int second = 0; second < 9; second++) {
                // Source s has 10, 11, 12 more 3 * s in its columns, so that no column is like another.
                TableEngine x = new TableEngine();
                for (int t = 0; t < 3; t++) {
                    x.insert(t, 3 * t + 10, 3 * t + 11, 3 * t + 12, 0);
                    x.source(t);
                }
                x.output(1, 0, 0);
                x.condition(first / 3, first % 3, 3, true, second);
                Due.result("column " + first + " <= column " + second, x, 1, first <= second ? 1 : 0);
                x.condition(first / 3, first % 3, 3, false, second);
                Due.result("column " + first + " <= the int " + second, x, 1, 0);
            }
        }
    }

    private static void comparisons() {
        long[] values = {MIN, MIN + 1, -1, 0, 1, MAX - 1, MAX, N};
        for (int op = 0; op < 4; op++) {
            for (long a : values) {
                for (long b : values) {
                    boolean so = op == 0 ? a == b : op == 1 ? a != b : op == 2 ? a < b : a <= b;
                    long due = so && a != N && b != N ? 1 : 0;
                    String what = (a == N ? "NULL" : a) + " op " + op + " " + (b == N ? "NULL" : b);
                    Due.result(what + " in a column", compared(a, op, b, true), 1, due);
                    if (b != N) {
                        Due.result(what, compared(a, op, b, false), 1, due);
                    }
                }
            }
        }
    }

    /** Counts the one row with a in column 1 and b in column 2, if a op b. */
    private static TableEngine compared(long a, int op, long b, boolean column) {
        TableEngine x = new TableEngine();
        x.insert(2, 0, (int) a, (int) b, (a == N ? 2 : 0) + (b == N ? 4 : 0));
        x.source(2);
        x.output(1, 0, 0);
        x.condition(0, 1, op, column, column ? 2 : (int) b);
        return x;
    }

    private static void nullOrNot() {
        long[] values = {MIN, -1, 0, 1, MAX, N};
        for (long a : values) {
            for (long b : values) {
                String what = (a == N ? "NULL" : a) + " beside " + (b == N ? "NULL" : b);
                Due.result(what + ", op 4", compared(a, 4, b, true), 1, a == N ? 1 : 0);
                Due.result(what + ", op 5", compared(a, 5, b, true), 1, a == N ? 0 : 1);
                Due.result(what + ", op 4, an int", compared(a, 4, b, false), 1, a == N ? 1 : 0);
                Due.result(what + ", op 5, an int", compared(a, 5, b, false), 1, a == N ? 0 : 1);
            }
        }
    }

    private static void rowOfEachSource() {
        for (int none = 0; none < 3; none++) {
            TableEngine x = new TableEngine();
            for (int t = 0; t < 3; t++) {
                Made.fill(x, t, t == none ? 0 : 2);
                x.source(t);
            }
            x.output(1, 0, 0);
            Due.result("no row in source " + none, x, 1, 0);
            x.insert(none, 0, 0, 0, 7);
            Due.result("one row in source " + none, x, 1, 4);
        }
        TableEngine x = new TableEngine();
        for (int t = 0; t < 3; t++) {
            Made.fill(x, t, 16);
        }
        x.source(0);
        x.output(1, 0, 0);
        Due.result("16 rows", x, 1, 16);
        x.source(1);
        Due.result("16 by 16 rows", x, 1, 256);
        x.source(2);
        Due.result("16 by 16 by 16 rows", x, 1, 4096);
    }

    private static void allConditions() {
        TableEngine x = Made.rows(0, 1);
        x.source(0);
        x.output(1, 0, 0);
        Due.result("no condition", x, 1, 1);
        for (int untrue = 0; untrue <= 6; untrue++) {
            Made.only(x, 0);
            x.output(1, 0, 0);
            for (int i = 0; i < 6; i++) {
                x.condition(0, 0, i == untrue ? 4 : 5, false, 0);
            }
            Due.result("of six just condition " + untrue + " is not true", x, 1, untrue == 6 ? 1 : 0);
        }
    }

    private static void order() {
        TableEngine x = new TableEngine();
        int[] ints = {2, 1, 4, 3, 6, 5};
        for (int i = 0; i < 6; i++) {
            Made.put(x, 3 * (i / 2), ints[i]);
        }
        int[] tables = {1, 2, 0};
        for (int s = 0; s < 3; s++) {
            x.source(tables[s]);
            x.output(0, s, 0);
        }
        Due.result("tables 1, 2, 0", x, 3,
            4, 6, 2, 4, 6, 1, 4, 5, 2, 4, 5, 1, 3, 6, 2, 3, 6, 1, 3, 5, 2, 3, 5, 1);
        x.condition(2, 0, 0, false, 1);
        x.condition(1, 0, 2, false, 6);
        Due.result("of those that hold too", x, 3, 4, 5, 1, 3, 5, 1);
    }
}
