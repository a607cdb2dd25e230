/** Promise 2. */
public final class ConstrainTest {
    private static final int MIN = Integer.MIN_VALUE, MAX = Integer.MAX_VALUE;

    public static void main(String[] args) {
        wrongColumnsAndKinds();
        unique();
        required();
        referenceBad();
        referenceViolated();
        referenceIsReplaced();
        referenceActions();
        referencesInCircles();
        takenAway();
        takenAwayBad();
        eachColumnHasItsOwn();
        everyPairOfColumns();
        Due.end("ConstrainTest");
    }

    private static void wrongColumnsAndKinds() {
        TableEngine x = new TableEngine();
        x.constrain(1, 1, 0, 0, 0);
        for (int kind = -1; kind <= 6; kind++) {
            Due.is("table -1", x.constrain(-1, 0, kind, 1, 1), Due.BAD);
            Due.is("table 3", x.constrain(3, 0, kind, 1, 1), Due.BAD);
            Due.is("column -1", x.constrain(0, -1, kind, 1, 1), Due.BAD);
            Due.is("column 3", x.constrain(0, 3, kind, 1, 1), Due.BAD);
            Due.is("table least", x.constrain(MIN, 0, kind, 1, 1), Due.BAD);
            Due.is("column greatest", x.constrain(0, MAX, kind, 1, 1), Due.BAD);
        }
        Due.is("kind -1", x.constrain(0, 0, -1, 1, 1), Due.BAD);
        Due.is("kind 6", x.constrain(0, 0, 6, 1, 1), Due.BAD);
        Due.is("kind least", x.constrain(0, 0, MIN, 1, 1), Due.BAD);
        Due.is("kind greatest", x.constrain(0, 0, MAX, 1, 1), Due.BAD);
        Due.is("after BAD nothing is UNIQUE or REQUIRED", x.insert(0, 0, 0, 0, 7), 1);
        Due.is("u and d aren't looked at for UNIQUE", x.constrain(0, 0, 0, -1, 9), 0);
        Due.is("u and d aren't looked at for REQUIRED", x.constrain(2, 0, 1, -1, 9), 0);
        Due.is("u and d aren't looked at for kind 5", x.constrain(2, 0, 5, -1, 9), 0);
    }

    private static void unique() {
        TableEngine x = new TableEngine();
        x.insert(0, 1, 5, 5, 0);
        x.insert(0, 2, 6, 0, 4);
        x.insert(0, 3, 5, 0, 4);
        Due.is("different ints", x.constrain(0, 0, 0, 0, 0), 0);
        Due.is("again", x.constrain(0, 0, 0, 0, 0), 0);
        Due.is("first and last the same", x.constrain(0, 1, 0, 0, 0), Due.VIOLATED);
        Due.is("after VIOLATED it isn't UNIQUE", x.constrain(1, 1, 2, 0, 1), Due.BAD);
        Due.is("NULLs are not the same int", x.constrain(0, 2, 0, 0, 0), 0);
        Due.is("UNIQUE holds for inserted rows", x.insert(0, 3, 5, 9, 0), Due.VIOLATED);
        Due.is("one more NULL", x.insert(0, 4, 5, 9, 4), 4);
        Due.is("NULL in a UNIQUE column", x.insert(0, 4, 5, 9, 1), 5);
    }

    private static void required() {
        TableEngine x = new TableEngine();
        x.insert(0, 1, 1, 1, 0);
        x.insert(0, 1, 1, 1, 2);
        Due.is("no NULL", x.constrain(0, 0, 1, 0, 0), 0);
        Due.is("a NULL", x.constrain(0, 1, 1, 0, 0), Due.VIOLATED);
        Due.is("after VIOLATED it isn't REQUIRED", x.insert(0, 1, 1, 1, 2), 3);
        Due.is("REQUIRED holds for inserted rows", x.insert(0, 1, 1, 1, 1), Due.VIOLATED);
        Due.is("the same int is no matter", x.insert(0, 1, 1, 1, 0), 4);
    }

    private static void referenceBad() {
        TableEngine x = new TableEngine();
        x.constrain(0, 0, 0, 0, 0);
        for (int kind = 2; kind <= 4; kind++) {
            Due.is("u -1", x.constrain(1, 0, kind, -1, 0), Due.BAD);
            Due.is("u 3", x.constrain(1, 0, kind, 3, 0), Due.BAD);
            Due.is("d -1", x.constrain(1, 0, kind, 0, -1), Due.BAD);
            Due.is("d 3", x.constrain(1, 0, kind, 0, 3), Due.BAD);
            Due.is("u greatest", x.constrain(1, 0, kind, MAX, 0), Due.BAD);
            Due.is("d least", x.constrain(1, 0, kind, 0, MIN), Due.BAD);
            Due.is("the same column", x.constrain(0, 0, kind, 0, 0), Due.BAD);
            Due.is("not UNIQUE", x.constrain(1, 0, kind, 0, 1), Due.BAD);
        }
        x.constrain(0, 2, 1, 0, 0);
        Due.is("REQUIRED is not UNIQUE", x.constrain(1, 0, 2, 0, 2), Due.BAD);
        x.insert(1, 4, 4, 4, 0);
        Due.is("BAD comes before VIOLATED", x.constrain(1, 0, 2, 0, 1), Due.BAD);
        Due.is("after BAD there is no reference", x.insert(1, 99, 0, 0, 0), 2);
    }

    private static void referenceViolated() {
        TableEngine x = new TableEngine();
        x.constrain(0, 0, 0, 0, 0);
        x.insert(0, 1, 1, 7, 0);
        x.insert(0, 2, 3, 7, 0);
        x.insert(1, 2, 1, 7, 4);
        x.insert(1, 1, 3, 7, 4);
        for (int kind = 2; kind <= 4; kind++) {
            Due.is("an int that isn't there", x.constrain(1, 1, kind, 0, 0), Due.VIOLATED);
            Due.is("an int that isn't there, same table", x.constrain(0, 1, kind, 0, 0), Due.VIOLATED);
            Due.is("all are there", x.constrain(1, 0, kind, 0, 0), 0);
            Due.is("all are NULL", x.constrain(1, 2, kind, 0, 0), 0);
        }
        Due.is("after VIOLATED there is no reference", x.insert(1, 1, 99, 1, 0), 3);
        Due.is("the reference holds", x.insert(1, 3, 0, 0, 4), Due.VIOLATED);
        Due.is("the other reference holds", x.insert(1, 1, 0, 3, 0), Due.VIOLATED);
    }

    private static void referenceIsReplaced() {
        TableEngine x = new TableEngine();
        x.constrain(0, 0, 0, 0, 0);
        x.constrain(2, 1, 0, 0, 0);
        x.insert(0, 1, 0, 0, 0);
        x.insert(2, 0, 2, 0, 0);
        Due.is("first", x.constrain(1, 0, 2, 0, 0), 0);
        Due.is("in place of it", x.constrain(1, 0, 2, 2, 1), 0);
        Due.is("the first one is gone", x.insert(1, 1, 0, 0, 0), Due.VIOLATED);
        Due.is("the second one holds", x.insert(1, 2, 0, 0, 0), 1);
        Due.is("the first target is free", x.constrain(0, 0, 5, 0, 0), 0);
        Due.is("the second target is not", x.constrain(2, 1, 5, 0, 0), Due.BAD);
        x.constrain(0, 0, 0, 0, 0);
        Due.is("rows don't fit the first", x.constrain(1, 0, 3, 0, 0), Due.VIOLATED);
        Due.is("after VIOLATED the second stays", x.insert(1, 1, 0, 0, 0), Due.VIOLATED);
        Due.is("BAD", x.constrain(1, 0, 3, 0, 1), Due.BAD);
        Due.is("after BAD the second stays", x.insert(1, 1, 0, 0, 0), Due.VIOLATED);
        x.source(2);
        Due.is("and so does its action", x.erase(), Due.VIOLATED);
    }

    private static void referenceActions() {
        int[] answers = {Due.VIOLATED, 2, 1};
        int[] rowsLeft = {1, 0, 1};
        for (int kind = 2; kind <= 4; kind++) {
            for (int before = 2; before <= 4; before++) {
                TableEngine x = new TableEngine();
                x.constrain(0, 0, 0, 0, 0);
                x.insert(0, 1, 0, 0, 0);
                x.insert(1, 0, 1, 0, 0);
                x.constrain(1, 1, before, 0, 0);
                x.constrain(1, 1, kind, 0, 0);
                x.source(0);
                Due.is("kind " + kind + " after " + before + ": erase", x.erase(), answers[kind - 2]);
                Due.is("kind " + kind + " after " + before + ": rows", x.rows(1), rowsLeft[kind - 2]);
                Due.is("kind " + kind + " after " + before + ": value", x.value(1, 0, 1), kind == 2 ? 1 : Due.NULL);
            }
        }
    }

    private static void referencesInCircles() {
        TableEngine x = new TableEngine();
        x.constrain(0, 0, 0, 0, 0);
        x.constrain(1, 0, 0, 0, 0);
        Due.is("one way", x.constrain(0, 0, 3, 1, 0), 0);
        Due.is("and back", x.constrain(1, 0, 3, 0, 0), 0);
        Due.is("no row can begin", x.insert(0, 1, 1, 1, 0), Due.VIOLATED);
        Due.is("a NULL can", x.insert(0, 1, 1, 1, 1), 1);
    }

    private static void takenAway() {
        TableEngine x = new TableEngine();
        x.constrain(0, 0, 0, 0, 0);
        x.insert(0, 1, 1, 1, 0);
        x.constrain(1, 1, 0, 0, 0);
        x.constrain(1, 1, 1, 0, 0);
        x.constrain(1, 1, 3, 0, 0);
        Due.is("REFERENCE", x.insert(1, 0, 2, 0, 0), Due.VIOLATED);
        Due.is("all three fit", x.insert(1, 0, 1, 0, 0), 1);
        Due.is("UNIQUE", x.insert(1, 0, 1, 0, 0), Due.VIOLATED);
        Due.is("REQUIRED", x.insert(1, 0, 1, 0, 2), Due.VIOLATED);
        Due.is("taken away", x.constrain(1, 1, 5, 0, 0), 0);
        Due.is("no REFERENCE", x.insert(1, 0, 2, 0, 0), 2);
        Due.is("not UNIQUE", x.insert(1, 0, 2, 0, 0), 3);
        Due.is("not REQUIRED", x.insert(1, 0, 2, 0, 2), 4);
        Due.is("no longer referred to", x.constrain(0, 0, 5, 0, 0), 0);
        Due.is("where there is none", x.constrain(0, 0, 5, 0, 0), 0);
        Due.is("no longer UNIQUE, so none can refer", x.constrain(2, 1, 2, 0, 0), Due.BAD);
    }

    private static void takenAwayBad() {
        TableEngine x = new TableEngine();
        x.constrain(0, 0, 0, 0, 0);
        x.constrain(0, 0, 1, 0, 0);
        x.constrain(0, 1, 2, 0, 0);
        Due.is("a column of the same table refers", x.constrain(0, 0, 5, 0, 0), Due.BAD);
        Due.is("REQUIRED stays", x.insert(0, 1, 1, 1, 3), Due.VIOLATED);
        x.constrain(0, 1, 5, 0, 0);
        x.constrain(2, 2, 4, 0, 0);
        Due.is("a column of another table refers, without rows", x.constrain(0, 0, 5, 0, 0), Due.BAD);
        x.insert(0, 1, 1, 1, 0);
        Due.is("UNIQUE stays", x.insert(0, 1, 1, 1, 0), Due.VIOLATED);
        x.constrain(2, 2, 5, 0, 0);
        Due.is("none refers", x.constrain(0, 0, 5, 0, 0), 0);
    }

    private static void everyPairOfColumns() {
        for (int from = 0; from < 9; from++) {
            for (int to = 0; to < 9; to++) {
                TableEngine x = new TableEngine();
                x.constrain(to / 3, to % 3, 0, 0, 0);
                int answer = x.constrain(from / 3, from % 3, 2, to / 3, to % 3);
                Due.is("column " + from + " to " + to, answer, from == to ? Due.BAD : 0);
                answer = x.constrain(to / 3, to % 3, 5, 0, 0);
                Due.is("column " + from + " to " + to + ", taken away", answer, from == to ? 0 : Due.BAD);
            }
        }
    }

    private static void eachColumnHasItsOwn() {
        for (int column = 0; column < 9; column++) {
            TableEngine x = new TableEngine();
            x.constrain(column / 3, column % 3, 1, 0, 0);
            for (int other = 0; other < 9; other++) {
                int answer = x.insert(other / 3, 1, 1, 1, 1 << other % 3);
                Due.is("REQUIRED " + column + ", NULL in " + other, answer == Due.VIOLATED, column == other);
            }
            x = new TableEngine();
            x.constrain(column / 3, column % 3, 0, 0, 0);
            for (int other = 0; other < 9; other++) {
                int from = (other + 1) % 9;
                if (from != column) {
                    int answer = x.constrain(from / 3, from % 3, 2, other / 3, other % 3);
                    Due.is("UNIQUE " + column + ", reference to " + other, answer, column == other ? 0 : Due.BAD);
                }
            }
        }
    }
}
