/** Promise 3. */
public final class InsertTest {
    private static final int MIN = Integer.MIN_VALUE, MAX = Integer.MAX_VALUE;

    public static void main(String[] args) {
        rowsAndNulls();
        wrongInputs();
        full();
        violated();
        refersToItself();
        orderOfTests();
        Due.end("InsertTest");
    }

    private static void rowsAndNulls() {
        for (int t = 0; t < 3; t++) {
            TableEngine x = new TableEngine();
            for (int nulls = 0; nulls < 8; nulls++) {
                Due.is("insert", x.insert(t, 10 + nulls, 20 + nulls, 30 + nulls, nulls), nulls + 1);
            }
            for (int i = 0; i < 8; i++) {
                Due.is("column 0", x.value(t, i, 0), (i & 1) != 0 ? Due.NULL : 10 + i);
                Due.is("column 1", x.value(t, i, 1), (i & 2) != 0 ? Due.NULL : 20 + i);
                Due.is("column 2", x.value(t, i, 2), (i & 4) != 0 ? Due.NULL : 30 + i);
            }
            Due.is("the next table has none", x.rows((t + 1) % 3), 0);
            Due.is("the table before has none", x.rows((t + 2) % 3), 0);
        }
        TableEngine x = new TableEngine();
        x.insert(0, MIN, MAX, -1, 0);
        Due.table("extremes", x, 0, MIN, MAX, -1);
    }

    private static void wrongInputs() {
        TableEngine x = new TableEngine();
        Due.is("table -1", x.insert(-1, 1, 1, 1, 0), Due.BAD);
        Due.is("table 3", x.insert(3, 1, 1, 1, 0), Due.BAD);
        Due.is("table least", x.insert(MIN, 1, 1, 1, 0), Due.BAD);
        Due.is("nulls -1", x.insert(0, 1, 1, 1, -1), Due.BAD);
        Due.is("nulls 8", x.insert(0, 1, 1, 1, 8), Due.BAD);
        Due.is("nulls greatest", x.insert(0, 1, 1, 1, MAX), Due.BAD);
        for (int t = 0; t < 3; t++) {
            Due.is("nothing was inserted", x.rows(t), 0);
        }
    }

    private static void full() {
        TableEngine x = new TableEngine();
        for (int i = 1; i <= 16; i++) {
            Due.is("insert", x.insert(1, i, i, i, 0), i);
        }
        Due.is("17th", x.insert(1, 17, 17, 17, 0), Due.FULL);
        Due.is("rows", x.rows(1), 16);
        Due.is("the last one", x.value(1, 15, 2), 16);
        Due.is("another table", x.insert(2, 1, 1, 1, 0), 1);
        Due.is("and the first", x.insert(0, 1, 1, 1, 0), 1);
        Due.is("the first of the full one", x.value(1, 0, 0), 1);
    }

    private static void violated() {
        TableEngine x = new TableEngine();
        x.constrain(0, 2, 0, 0, 0);
        x.constrain(1, 0, 1, 0, 0);
        x.constrain(1, 1, 2, 0, 2);
        Due.is("a", x.insert(0, 1, 1, 5, 0), 1);
        Due.is("UNIQUE", x.insert(0, 1, 1, 5, 0), Due.VIOLATED);
        Due.is("UNIQUE, but NULL", x.insert(0, 1, 1, 5, 4), 2);
        Due.is("UNIQUE, NULL again", x.insert(0, 1, 1, 5, 4), 3);
        Due.is("REQUIRED", x.insert(1, 1, 5, 1, 1), Due.VIOLATED);
        Due.is("REFERENCE", x.insert(1, 1, 6, 1, 0), Due.VIOLATED);
        Due.is("REFERENCE to what just another column has", x.insert(1, 1, 1, 1, 0), Due.VIOLATED);
        Due.is("REFERENCE, but NULL", x.insert(1, 1, 6, 1, 2), 1);
        Due.is("REFERENCE that fits", x.insert(1, 1, 5, 1, 0), 2);
        Due.is("REFERENCE that fits again", x.insert(1, 1, 5, 1, 0), 3);
        Due.table("just what fitted", x, 0, 1, 1, 5, 1, 1, Due.NULL, 1, 1, Due.NULL);
        Due.table("just what fitted", x, 1, 1, Due.NULL, 1, 1, 5, 1, 1, 5, 1);
    }

    private static void refersToItself() {
        TableEngine x = new TableEngine();
        x.constrain(2, 1, 0, 0, 0);
        x.constrain(2, 0, 2, 2, 1);
        Due.is("to itself", x.insert(2, 4, 4, 0, 0), 1);
        Due.is("to the one before", x.insert(2, 4, 5, 0, 0), 2);
        Due.is("to one that isn't there", x.insert(2, 7, 6, 0, 0), Due.VIOLATED);
        Due.is("to what would be itself but for NULL", x.insert(2, 6, 6, 0, 2), Due.VIOLATED);
        Due.is("to itself again", x.insert(2, 7, 7, 0, 0), 3);
        Due.table("rows", x, 2, 4, 4, 0, 4, 5, 0, 7, 7, 0);
    }

    private static void orderOfTests() {
        TableEngine x = new TableEngine();
        x.constrain(0, 0, 0, 0, 0);
        x.insert(0, 1, 1, 1, 0);
        Due.is("BAD before VIOLATED", x.insert(0, 1, 1, 1, 8), Due.BAD);
        for (int i = 2; i <= 16; i++) {
            x.insert(0, i, 1, 1, 0);
        }
        Due.is("FULL before VIOLATED", x.insert(0, 1, 1, 1, 0), Due.FULL);
        Due.is("BAD before FULL", x.insert(0, 1, 1, 1, 8), Due.BAD);
    }
}
