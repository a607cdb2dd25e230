/** Objects that tests begin with, and statements that take several calls. A column is 3 * table + column here. */
final class Made {
    static final int MIN = Integer.MIN_VALUE, MAX = Integer.MAX_VALUE;
    static final long N = Due.NULL;
    /** None is in 0..2; times 3 and times 16 the last two wrap around to 2 and to 0. */
    static final int[] OUTSIDE = {-1, 3, MIN, MAX, 0x55555556, 1 << 28};

    private Made() {
    }

    /** Rows 0 to n - 1 of table t, each with its number in all columns. */
    static TableEngine rows(int t, int n) {
        TableEngine x = new TableEngine();
        fill(x, t, n);
        return x;
    }

    static void fill(TableEngine x, int t, int n) {
        for (int i = 0; i < n; i++) {
            x.insert(t, i, i, i, 0);
        }
    }

    /** Column 0 of table 0 is UNIQUE and has the keys 1 to n; all else is NULL. */
    static TableEngine keyed(int n) {
        TableEngine x = new TableEngine();
        unique(x, 0);
        for (int i = 1; i <= n; i++) {
            put(x, 0, i);
        }
        return x;
    }

    /** Inserts rows that are NULL but for one of these ints in that column. */
    static void put(TableEngine x, int column, int... ints) {
        for (int v : ints) {
            x.insert(column / 3, v, v, v, 7 - (1 << column % 3));
        }
    }

    static void unique(TableEngine x, int... columns) {
        for (int column : columns) {
            Due.is("column " + column + " is made UNIQUE", x.constrain(column / 3, column % 3, 0, 0, 0), 0);
        }
    }

    static void required(TableEngine x, int column) {
        Due.is("column " + column + " is made REQUIRED", x.constrain(column / 3, column % 3, 1, 0, 0), 0);
    }

    /** With the action 0, 1 or 2, and not with the kind that stands for it in constrain. */
    static void refer(TableEngine x, int from, int action, int to) {
        unique(x, to);
        int answer = x.constrain(from / 3, from % 3, 2 + action, to / 3, to % 3);
        Due.is("column " + from + " is made to refer to " + to, answer, 0);
    }

    /** The draft becomes just this source. */
    static void only(TableEngine x, int t) {
        x.wipe();
        x.source(t);
    }

    /** The draft becomes just this source, with the one condition that column c is v. */
    static void where(TableEngine x, int t, int c, int v) {
        only(x, t);
        x.condition(0, c, 0, false, v);
    }

    static int eraseWhere(TableEngine x, int t, int c, int v) {
        where(x, t, c, v);
        return x.erase();
    }

    static int eraseAll(TableEngine x, int t) {
        only(x, t);
        return x.erase();
    }

    /** All rows of all tables in one line. */
    static String told(TableEngine x) {
        StringBuilder line = new StringBuilder();
        for (int t = 0; t < 3; t++) {
            int rows = x.rows(t);
            for (int i = 0; i < rows; i++) {
                for (int c = 0; c < 3; c++) {
                    long v = x.value(t, i, c);
                    line.append(v == N ? "NULL" : Long.toString(v)).append(' ');
                }
                line.append("| ");
            }
            line.append("|| ");
        }
        return line.toString();
    }
}
