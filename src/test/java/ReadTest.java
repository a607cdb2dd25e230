/** Promises 16 and 17. */
public final class ReadTest {
    private static final int MIN = Integer.MIN_VALUE, MAX = Integer.MAX_VALUE;

    public static void main(String[] args) {
        TableEngine x = new TableEngine();
        int[] outside = {-1, 3, 16, MIN, MAX};
        for (int t : outside) {
            Due.is("rows of table " + t, x.rows(t), Due.BAD);
        }
        for (int t = 0; t < 3; t++) {
            for (int i = 0; i <= t; i++) {
                x.insert(t, 100 * t + 10 * i, 100 * t + 10 * i + 1, 100 * t + 10 * i + 2, 0);
            }
        }
        for (int t = 0; t < 3; t++) {
            Due.is("rows of table " + t, x.rows(t), t + 1);
            for (int i = 0; i <= t; i++) {
                for (int c = 0; c < 3; c++) {
                    Due.is("value", x.value(t, i, c), 100 * t + 10 * i + c);
                }
            }
            Due.is("behind the last row", x.value(t, t + 1, 0), Due.NULL);
        }
        for (int v : outside) {
            Due.is("table " + v, x.value(v, 0, 0), Due.NULL);
            Due.is("row " + v, x.value(2, v, 0), Due.NULL);
            Due.is("column " + v, x.value(2, 0, v), Due.NULL);
        }
        Due.is("row 1, column -1", x.value(2, 1, -1), Due.NULL);
        Due.is("table 0, column 3", x.value(0, 0, 3), Due.NULL);
        x.insert(0, 1, 1, 1, 2);
        Due.is("NULL", x.value(0, 1, 1), Due.NULL);
        x.source(2);
        x.erase();
        Due.is("an erased row", x.value(2, 0, 0), Due.NULL);
        Due.is("no rows", x.rows(2), 0);
        Due.end("ReadTest");
    }
}
