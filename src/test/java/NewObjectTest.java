/** Promise 1, and the constants. */
public final class NewObjectTest {
    public static void main(String[] args) {
        constants();
        nothingIsThere();
        noConstraints();
        emptyDraft();
        objectsAreApart();
        Due.end("NewObjectTest");
    }

    private static void constants() {
        Due.is("OK", TableEngine.OK, 0);
        Due.is("BAD", TableEngine.BAD, -1);
        Due.is("FULL", TableEngine.FULL, -2);
        Due.is("VIOLATED", TableEngine.VIOLATED, -3);
        Due.is("TOO_MANY", TableEngine.TOO_MANY, -4);
        Due.is("NULL", TableEngine.NULL, -9000000000000000000L);
    }

    private static void nothingIsThere() {
        TableEngine x = new TableEngine();
        for (int t = 0; t < 3; t++) {
            Due.is("new: rows", x.rows(t), 0);
            Due.is("new: value", x.value(t, 0, 0), Due.NULL);
        }
        Due.is("new: no result", x.cell(0, 0), Due.NULL);
        Due.is("new: no transaction to keep", x.end(true), false);
        Due.is("new: no transaction to take back", x.end(false), false);
    }

    private static void noConstraints() {
        TableEngine x = new TableEngine();
        for (int t = 0; t < 3; t++) {
            Due.is("new: a row", x.insert(t, 1, 1, 1, 0), 1);
            Due.is("new: the same row, no column is UNIQUE", x.insert(t, 1, 1, 1, 0), 2);
            Due.is("new: NULLs, no column is REQUIRED", x.insert(t, 0, 0, 0, 7), 3);
            for (int c = 0; c < 3; c++) {
                Due.is("new: no column can be referred to", x.constrain((t + 1) % 3, c, 2, t, c), Due.BAD);
                Due.is("new: no column is referred to", x.constrain(t, c, 5, 0, 0), 0);
            }
        }
    }

    private static void emptyDraft() {
        TableEngine x = new TableEngine();
        Due.is("new: run", x.run(), Due.BAD);
        Due.is("new: erase", x.erase(), Due.BAD);
        Due.is("new: change", x.change(0, 0, 0), Due.BAD);
        Due.is("new: condition", x.condition(0, 0, 4, false, 0), Due.BAD);
        Due.is("new: output", x.output(0, 0, 0), Due.BAD);
        Due.is("new: key", x.key(0, false), Due.BAD);
        Due.is("new: wipe", x.wipe(), 0);
        // 60 rows in all, the same value in each: neither LIMIT nor DISTINCT may take one away
        for (int i = 0; i < 15; i++) {
            x.insert(0, 7, 7, 7, 0);
        }
        for (int i = 0; i < 4; i++) {
            x.insert(1, 7, 7, 7, 0);
        }
        x.source(0);
        x.source(1);
        x.output(0, 0, 0);
        Due.is("new: limit 60, not distinct", x.run(), 60);
    }

    private static void objectsAreApart() {
        TableEngine x = new TableEngine();
        TableEngine y = new TableEngine();
        x.insert(0, 1, 2, 3, 0);
        x.begin();
        x.source(0);
        Due.is("another object: rows", y.rows(0), 0);
        Due.is("another object: transaction", y.end(true), false);
        Due.is("another object: sources", y.wipe(), 0);
    }
}
