/** Promises 6 and 7. */
public final class TransactionTest {
    public static void main(String[] args) {
        openAndClosed();
        kept();
        rowsAreTakenBack();
        constraintsAreTakenBack();
        constraintsComeBack();
        draftAndResultStay();
        oneAfterTheOther();
        failedStatementsInside();
        Due.end("TransactionTest");
    }

    private static void openAndClosed() {
        TableEngine x = new TableEngine();
        Due.is("none is open", x.end(true), false);
        Due.is("none is open", x.end(false), false);
        Due.is("begin", x.begin(), true);
        Due.is("one is open", x.begin(), false);
        Due.is("end", x.end(true), true);
        Due.is("none is open", x.end(true), false);
        Due.is("begin again", x.begin(), true);
        Due.is("end", x.end(false), true);
        Due.is("none is open", x.end(false), false);
    }

    private static void kept() {
        TableEngine x = new TableEngine();
        x.insert(0, 1, 1, 1, 0);
        x.begin();
        x.insert(0, 2, 2, 2, 0);
        x.constrain(0, 0, 0, 0, 0);
        x.end(true);
        Due.table("stays", x, 0, 1, 1, 1, 2, 2, 2);
        Due.is("the constraint stays", x.insert(0, 2, 2, 2, 0), Due.VIOLATED);
        Due.is("nothing can be taken back", x.end(false), false);
        Due.table("stays", x, 0, 1, 1, 1, 2, 2, 2);
    }

    private static void rowsAreTakenBack() {
        TableEngine x = new TableEngine();
        for (int t = 0; t < 3; t++) {
            x.insert(t, t, 10, 20, 0);
            x.insert(t, t + 5, 11, 21, 4);
        }
        x.begin();
        x.source(0);
        x.change(0, 2, 100);
        Due.is("changed", x.value(0, 0, 0), 100);
        x.wipe();
        x.source(1);
        x.condition(0, 0, 0, false, 1);
        Due.is("erased", x.erase(), 1);
        for (int i = 2; i < 16; i++) {
            x.insert(2, i, i, i, 0);
        }
        Due.is("inserted", x.rows(2), 16);
        Due.is("a second begin", x.begin(), false);
        Due.is("end", x.end(false), true);
        for (int t = 0; t < 3; t++) {
            Due.table("as at the beginning", x, t, t, 10, 20, t + 5, 11, Due.NULL);
        }
        Due.is("and it can be filled again", x.insert(2, 1, 1, 1, 0), 3);
    }

    private static void constraintsAreTakenBack() {
        TableEngine x = new TableEngine();
        x.insert(1, 1, 1, 1, 0);
        x.begin();
        x.constrain(1, 0, 0, 0, 0);
        x.constrain(0, 1, 1, 0, 0);
        x.constrain(2, 2, 3, 1, 0);
        x.end(false);
        Due.is("not UNIQUE", x.insert(1, 1, 1, 1, 0), 2);
        Due.is("not REQUIRED", x.insert(0, 1, 1, 1, 2), 1);
        Due.is("no REFERENCE", x.insert(2, 9, 9, 9, 0), 1);
        Due.is("not referred to", x.constrain(1, 0, 5, 0, 0), 0);
    }

    private static void constraintsComeBack() {
        TableEngine x = new TableEngine();
        x.constrain(0, 0, 0, 0, 0);
        x.constrain(0, 2, 1, 0, 0);
        x.constrain(1, 1, 4, 0, 0);
        x.insert(0, 1, 1, 1, 0);
        x.insert(1, 1, 1, 1, 0);
        x.begin();
        x.constrain(1, 1, 3, 0, 0);
        x.constrain(1, 1, 5, 0, 0);
        x.constrain(0, 0, 5, 0, 0);
        x.constrain(0, 2, 5, 0, 0);
        Due.is("free inside", x.insert(0, 1, 1, 1, 4), 2);
        x.end(false);
        Due.is("UNIQUE", x.insert(0, 1, 1, 1, 0), Due.VIOLATED);
        Due.is("REQUIRED", x.insert(0, 2, 1, 1, 4), Due.VIOLATED);
        Due.is("REFERENCE", x.insert(1, 1, 2, 1, 0), Due.VIOLATED);
        x.source(0);
        Due.is("with its action", x.erase(), 1);
        Due.table("clear", x, 1, 1, Due.NULL, 1);
    }

    private static void draftAndResultStay() {
        TableEngine x = new TableEngine();
        x.insert(0, 1, 1, 1, 0);
        x.source(0);
        x.begin();
        x.insert(0, 2, 2, 2, 0);
        x.condition(0, 0, 1, false, 9);
        x.output(0, 0, 0);
        x.key(0, true);
        x.limit(7, true);
        Due.is("run", x.run(), 2);
        x.end(false);
        Due.is("the result stays", x.cell(0, 0), 2);
        Due.is("the result stays", x.cell(1, 0), 1);
        Due.result("the draft stays", x, 1, 1);
        Due.is("conditions stay", x.condition(0, 0, 1, false, 9), 2);
        Due.is("keys stay", x.key(0, true), 2);
        Due.is("outputs stay", x.output(1, 0, 0), 1);
    }

    private static void oneAfterTheOther() {
        TableEngine x = new TableEngine();
        x.begin();
        x.insert(0, 1, 1, 1, 0);
        x.end(true);
        x.begin();
        x.insert(0, 2, 2, 2, 0);
        x.end(false);
        Due.table("back to the second beginning", x, 0, 1, 1, 1);
        x.insert(0, 3, 3, 3, 0);
        x.begin();
        x.end(false);
        Due.table("an empty one changes nothing", x, 0, 1, 1, 1, 3, 3, 3);
        x.insert(0, 4, 4, 4, 0);
        Due.is("none is open", x.end(false), false);
        Due.is("so nothing is taken back", x.rows(0), 3);
    }

    private static void failedStatementsInside() {
        TableEngine x = new TableEngine();
        x.constrain(0, 0, 0, 0, 0);
        x.begin();
        x.insert(0, 1, 1, 1, 0);
        Due.is("VIOLATED", x.insert(0, 1, 1, 1, 0), Due.VIOLATED);
        Due.is("what was done before it stays", x.rows(0), 1);
        Due.is("the transaction is open", x.end(true), true);
        Due.is("kept", x.rows(0), 1);
    }
}
