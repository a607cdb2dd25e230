/** Promises 14 and 15, with what the terms say of conditions, combinations, outputs and the result. */
public final class RunTest {
    private static final long N = Due.NULL;
    private static final int MIN = Integer.MIN_VALUE, MAX = Integer.MAX_VALUE;

    public static void main(String[] args) {
        bad();
        comparisons();
        orderOfCombinations();
        emptySource();
        aggregates();
        aggregatesOfNone();
        sumsAreWide();
        groups();
        groupsWithNull();
        noGroupWithoutCombination();
        differentAcrossSources();
        distinct();
        tooManyRows();
        tooManyGroups();
        tooManyComesBeforeLimit();
        keys();
        keysOverAggregates();
        limitComesAfterOrder();
        resultStays();
        cells();
        Due.end("RunTest");
    }

    private static void bad() {
        TableEngine x = new TableEngine();
        Due.is("empty draft", x.run(), Due.BAD);
        x.output(1, 0, 0);
        Due.is("no source", x.run(), Due.BAD);
        x.source(0);
        Due.result("both", x, 1, 0);
        x.wipe();
        x.source(0);
        Due.is("the result is there", x.cell(0, 0), 0);
        Due.is("no output", x.run(), Due.BAD);
        Due.is("no result after BAD", x.cell(0, 0), N);
    }

    private static void comparisons() {
        long[] first = {1, 2, 3, N, MIN, MAX};
        for (int op = 0; op < 6; op++) {
            for (int i = 0; i < first.length; i++) {
                for (int j = 0; j < first.length; j++) {
                    holds(op, first[i], first[j], true);
                    if (first[j] != N) {
                        holds(op, first[i], first[j], false);
                    }
                }
            }
        }
    }

    private static void holds(int op, long a, long b, boolean column) {
        TableEngine x = new TableEngine();
        x.insert(2, (int) a, (int) b, 0, (a == N ? 1 : 0) + (b == N ? 2 : 0));
        x.source(2);
        x.output(0, 0, 2);
        x.condition(0, 0, op, column, column ? 1 : (int) b);
        boolean ints = a != N && b != N;
        boolean[] due = {ints && a == b, ints && a != b, ints && a < b, ints && a <= b, a == N, a != N};
        Due.is(a + " op " + op + " " + b + " column " + column, x.run(), due[op] ? 1 : 0);
    }

    private static void orderOfCombinations() {
        TableEngine x = new TableEngine();
        x.insert(0, 2, 0, 0, 0);
        x.insert(0, 1, 0, 0, 0);
        x.insert(1, 4, 0, 0, 0);
        x.insert(1, 3, 0, 0, 0);
        x.source(1);
        x.source(0);
        x.source(1);
        for (int s = 0; s < 3; s++) {
            x.output(0, s, 0);
        }
        Due.result("source 0 first", x, 3,
            4, 2, 4, 4, 2, 3, 4, 1, 4, 4, 1, 3, 3, 2, 4, 3, 2, 3, 3, 1, 4, 3, 1, 3);
        x.condition(0, 0, 2, true, 6);
        Due.result("the same table twice, two rows of it", x, 3, 3, 2, 4, 3, 1, 4);
        x.condition(1, 0, 0, false, 1);
        Due.result("all conditions", x, 3, 3, 1, 4);
    }

    private static void emptySource() {
        TableEngine x = new TableEngine();
        x.insert(0, 1, 1, 1, 0);
        x.source(0);
        x.output(0, 0, 0);
        Due.is("one row", x.run(), 1);
        x.source(1);
        Due.is("a source without rows has no combination", x.run(), 0);
        Due.is("no row", x.cell(0, 0), N);
    }

    private static TableEngine someInts() {
        TableEngine x = new TableEngine();
        x.insert(0, 1, 5, 7, 0);
        x.insert(0, 2, -3, 7, 0);
        x.insert(0, 1, 0, 7, 2);
        x.insert(0, 2, 5, 8, 0);
        x.insert(0, 1, 4, 8, 0);
        return x;
    }

    private static void aggregates() {
        TableEngine x = someInts();
        x.source(0);
        x.output(1, 0, 1);
        x.output(2, 0, 1);
        x.output(3, 0, 1);
        x.output(6, 0, 1);
        Due.result("all, ints, sum, different", x, 4, 5, 4, 11, 3);
        x.wipe();
        x.source(0);
        x.output(4, 0, 1);
        x.output(5, 0, 1);
        x.output(4, 0, 2);
        x.output(5, 0, 0);
        Due.result("least and greatest", x, 4, -3, 5, 7, 2);
        x.condition(0, 1, 2, false, 0);
        Due.result("all are less than 0", x, 4, -3, -3, 7, 2);
    }

    private static void aggregatesOfNone() {
        for (int kind = 1; kind < 7; kind++) {
            long none = kind == 3 || kind == 4 || kind == 5 ? N : 0;
            TableEngine x = new TableEngine();
            x.source(0);
            x.output(kind, 0, 0);
            x.limit(60, true);
            Due.result("no row, kind " + kind, x, 1, none);
            x.insert(0, 0, 0, 0, 1);
            x.insert(0, 0, 0, 0, 1);
            Due.result("just NULLs, kind " + kind, x, 1, kind == 1 ? 2 : none);
            x.insert(0, 0, 0, 0, 0);
            Due.result("an int, kind " + kind, x, 1, kind == 1 ? 3 : kind == 2 || kind == 6 ? 1 : 0);
            x.condition(0, 1, 0, false, 9);
            Due.result("none holds, kind " + kind, x, 1, none);
        }
    }

    private static void sumsAreWide() {
        for (int sign = -1; sign <= 1; sign += 2) {
            int v = sign < 0 ? MIN : MAX;
            TableEngine x = new TableEngine();
            for (int i = 0; i < 16; i++) {
                x.insert(0, v, i, 0, 0);
            }
            x.source(0);
            x.source(0);
            x.source(0);
            x.output(3, 2, 0);
            x.output(1, 0, 0);
            x.output(6, 1, 1);
            x.output(2, 1, 0);
            Due.result("4096 combinations", x, 4, 4096L * v, 4096, 16, 4096);
        }
    }

    private static void groups() {
        TableEngine x = someInts();
        x.source(0);
        x.output(3, 0, 1);
        x.output(0, 0, 0);
        x.output(1, 0, 0);
        Due.result("in the order of their first combinations", x, 3, 9, 1, 3, 2, 2, 2);
        x.output(0, 0, 2);
        Due.result("two outputs of kind 0", x, 4, 5, 1, 2, 7, -3, 2, 1, 7, 5, 2, 1, 8, 4, 1, 1, 8);
        x.limit(60, true);
        Due.result("groups are different anyway", x, 4, 5, 1, 2, 7, -3, 2, 1, 7, 5, 2, 1, 8, 4, 1, 1, 8);
        x.wipe();
        x.source(0);
        x.output(0, 0, 0);
        x.output(4, 0, 1);
        x.output(5, 0, 1);
        x.output(6, 0, 2);
        Due.result("each group has its own", x, 4, 1, 4, 5, 2, 2, -3, 5, 2);
    }

    private static void groupsWithNull() {
        TableEngine x = new TableEngine();
        x.insert(0, 0, 1, 0, 1);
        x.insert(0, 0, 2, 0, 0);
        x.insert(0, 5, 3, 0, 1);
        x.insert(0, 0, 4, 0, 0);
        x.source(0);
        x.output(0, 0, 0);
        x.output(3, 0, 1);
        x.output(2, 0, 0);
        Due.result("NULL like NULL, and not like 0", x, 3, N, 4, 0, 0, 6, 2);
    }

    private static void noGroupWithoutCombination() {
        TableEngine x = someInts();
        x.source(0);
        x.output(0, 0, 0);
        x.output(1, 0, 0);
        x.condition(0, 0, 0, false, 9);
        Due.is("no row", x.run(), 0);
        Due.is("no cell", x.cell(0, 0), N);
        Due.is("no cell", x.cell(0, 1), N);
    }

    private static void differentAcrossSources() {
        TableEngine x = someInts();
        x.insert(1, 1, 7, 0, 0);
        x.insert(1, 2, 7, 0, 0);
        x.insert(1, 3, 6, 0, 0);
        x.source(1);
        x.source(0);
        x.condition(0, 0, 0, true, 3);
        x.output(0, 0, 1);
        x.output(6, 1, 1);
        x.output(6, 0, 0);
        x.output(1, 0, 0);
        Due.result("of both sources", x, 4, 7, 3, 2, 5);
        x.wipe();
        x.source(1);
        x.source(0);
        x.output(0, 0, 0);
        x.output(6, 1, 1);
        Due.result("every group counts them anew", x, 2, 1, 3, 2, 3, 3, 3);
    }

    private static void distinct() {
        TableEngine x = someInts();
        x.source(0);
        x.output(0, 0, 2);
        x.output(0, 0, 0);
        Due.result("not distinct", x, 2, 7, 1, 7, 2, 7, 1, 8, 2, 8, 1);
        x.limit(60, true);
        Due.result("just the first one", x, 2, 7, 1, 7, 2, 8, 2, 8, 1);
        x.wipe();
        x.source(0);
        x.output(0, 0, 1);
        x.limit(60, true);
        x.insert(0, 0, 0, 0, 2);
        Due.result("NULL is like NULL", x, 1, 5, -3, N, 4);
        x.key(0, false);
        Due.result("and ordered", x, 1, N, -3, 4, 5);
    }

    /** n rows in table 0 and m in table 1, each with its number in column 0, and both as sources. */
    private static TableEngine product(int n, int m) {
        TableEngine x = new TableEngine();
        for (int i = 0; i < n; i++) {
            x.insert(0, i, 0, 0, 0);
        }
        for (int i = 0; i < m; i++) {
            x.insert(1, i, 0, 0, 0);
        }
        x.source(0);
        x.source(1);
        return x;
    }

    private static void tooManyRows() {
        TableEngine x = product(15, 4);
        x.output(0, 0, 0);
        x.output(0, 1, 0);
        Due.is("60 rows", x.run(), 60);
        Due.is("the last", x.cell(59, 0), 14);
        Due.is("the last", x.cell(59, 1), 3);
        x.insert(1, 9, 9, 9, 0);
        Due.is("75 rows", x.run(), Due.TOO_MANY);
        Due.is("no result", x.cell(0, 0), N);
        x.limit(60, true);
        Due.is("75 distinct rows", x.run(), Due.TOO_MANY);
        x.condition(1, 1, 0, false, 0);
        Due.is("60 rows again", x.run(), 60);
        x.wipe();
        x.source(0);
        x.source(1);
        x.output(0, 1, 0);
        x.limit(60, true);
        Due.result("75 rows, 5 different ones", x, 1, 0, 1, 2, 3, 9);
        x = triangle();
        Due.is("55 rows", x.run(), 55);
        x.insert(1, 4, 0, 0, 0);
        Due.is("60 rows", x.run(), 60);
        x = triangle();
        x.insert(1, 5, 0, 0, 0);
        Due.is("61 rows", x.run(), Due.TOO_MANY);
    }

    /** The numbers 0 to 9 in both sources, joined where the first is no greater: v in table 1 adds v + 1 rows. */
    private static TableEngine triangle() {
        TableEngine x = product(10, 10);
        x.output(0, 0, 0);
        x.condition(0, 0, 3, true, 3);
        return x;
    }

    private static void tooManyGroups() {
        TableEngine x = product(15, 4);
        x.output(0, 0, 0);
        x.output(0, 1, 0);
        x.output(1, 0, 0);
        Due.is("60 groups", x.run(), 60);
        Due.is("of one each", x.cell(59, 2), 1);
        x.insert(0, 15, 0, 0, 0);
        Due.is("64 groups", x.run(), Due.TOO_MANY);
        Due.is("no result", x.cell(0, 2), N);
        x.insert(1, 3, 0, 0, 0);
        x.condition(0, 0, 1, false, 15);
        Due.is("75 combinations, 60 groups", x.run(), 60);
        Due.is("the last one has two", x.cell(59, 2), 2);
        x.wipe();
        x.source(0);
        x.source(1);
        x.output(1, 0, 0);
        Due.result("80 combinations, one row", x, 1, 80);
    }

    private static void tooManyComesBeforeLimit() {
        TableEngine x = product(16, 4);
        x.output(0, 0, 0);
        x.limit(1, false);
        Due.is("64 rows, limit 1", x.run(), Due.TOO_MANY);
        x.limit(0, false);
        Due.is("64 rows, limit 0", x.run(), Due.TOO_MANY);
        x.limit(1, true);
        Due.result("16 different, limit 1", x, 1, 0);
    }

    private static void keys() {
        TableEngine x = new TableEngine();
        x.insert(0, 2, 1, 0, 0);
        x.insert(0, 1, 1, 1, 0);
        x.insert(0, 0, 2, 2, 1);
        x.insert(0, 2, 2, 3, 0);
        x.insert(0, MIN, 2, 4, 0);
        x.insert(0, 0, 1, 5, 1);
        x.insert(0, MAX, 1, 6, 0);
        draftOfKeys(x);
        x.key(1, false);
        Due.result("rising, NULL first, the order stays", x, 2, 2, N, 5, N, 4, MIN, 1, 1, 0, 2, 3, 2, 6, MAX);
        draftOfKeys(x);
        x.key(1, true);
        Due.result("falling, NULL last, the order stays", x, 2, 6, MAX, 0, 2, 3, 2, 1, 1, 4, MIN, 2, N, 5, N);
        draftOfKeys(x);
        x.key(1, false);
        x.key(0, true);
        Due.result("the second key", x, 2, 5, N, 2, N, 4, MIN, 1, 1, 3, 2, 0, 2, 6, MAX);
        draftOfKeys(x);
        x.output(0, 0, 1);
        x.key(2, true);
        x.key(1, true);
        Due.result("the first one first", x, 3,
            3, 2, 2, 4, MIN, 2, 2, N, 2, 6, MAX, 1, 0, 2, 1, 1, 1, 1, 5, N, 1);
        draftOfKeys(x);
        x.key(1, false);
        x.key(1, true);
        Due.result("the same output twice", x, 2, 2, N, 5, N, 4, MIN, 1, 1, 0, 2, 3, 2, 6, MAX);
    }

    private static void draftOfKeys(TableEngine x) {
        x.wipe();
        x.source(0);
        x.output(0, 0, 2);
        x.output(0, 0, 0);
    }

    private static void keysOverAggregates() {
        TableEngine x = new TableEngine();
        x.insert(0, 1, MAX, 0, 0);
        x.insert(0, 2, 3, 0, 2);
        x.insert(0, 3, MIN, 0, 0);
        x.insert(0, 3, MIN, 0, 0);
        x.insert(0, 1, MAX, 0, 0);
        x.insert(0, 4, 0, 0, 0);
        x.source(0);
        x.output(0, 0, 0);
        x.output(3, 0, 1);
        x.key(1, false);
        Due.result("by a sum", x, 2, 2, N, 3, 2L * MIN, 4, 0, 1, 2L * MAX);
        x.output(1, 0, 0);
        x.wipe();
        x.source(0);
        x.output(1, 0, 0);
        x.output(0, 0, 0);
        x.key(0, true);
        x.key(1, true);
        Due.result("by a number of combinations", x, 2, 2, 3, 2, 1, 1, 4, 1, 2);
    }

    private static void limitComesAfterOrder() {
        TableEngine x = product(10, 1);
        x.output(0, 0, 0);
        x.key(0, true);
        x.limit(3, false);
        Due.result("the greatest three", x, 1, 9, 8, 7);
        x.limit(10, false);
        Due.is("as many as there are", x.run(), 10);
        x.limit(0, false);
        Due.is("none", x.run(), 0);
        Due.is("none", x.cell(0, 0), N);
    }

    private static void resultStays() {
        TableEngine x = product(2, 1);
        x.output(0, 0, 0);
        x.output(1, 0, 0);
        Due.result("run", x, 2, 0, 1, 1, 1);
        Due.result("the draft stays", x, 2, 0, 1, 1, 1);
        x.output(1, 0, 0);
        Due.is("an output that was added behind it", x.cell(0, 2), N);
        x.wipe();
        x.source(0);
        x.change(0, 2, 50);
        x.erase();
        x.insert(0, 77, 0, 0, 0);
        x.condition(9, 9, 9, true, 9);
        Due.is("row 1", x.cell(1, 0), 1);
        Due.is("row 1", x.cell(1, 1), 1);
        Due.is("row 2", x.cell(2, 0), N);
        x.output(0, 0, 0);
        Due.result("the latest one", x, 1, 77);
    }

    private static void cells() {
        TableEngine x = product(3, 1);
        x.output(0, 0, 0);
        x.output(0, 0, 0);
        x.run();
        int[] outside = {-1, 3, 60, MIN, MAX};
        for (int i : outside) {
            Due.is("row " + i, x.cell(i, 0), N);
            Due.is("output " + i, x.cell(0, i), N);
            Due.is("both " + i, x.cell(i, i), N);
        }
        Due.is("the last one", x.cell(2, 1), 2);
        Due.is("output 2", x.cell(0, 2), N);
        Due.is("row 1, output -1", x.cell(1, -1), N);
    }
}
