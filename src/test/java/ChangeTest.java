/** Promise 5. */
public final class ChangeTest {
    private static final int MIN = Integer.MIN_VALUE, MAX = Integer.MAX_VALUE;

    public static void main(String[] args) {
        wrongInputs();
        set();
        clear();
        add();
        allAtOnce();
        conditionsSeeTheOldValues();
        unique();
        required();
        referenceOfTheColumn();
        whatRefersToIt();
        withinOneTable();
        otherColumnsDoNotMatter();
        everyPairOfColumns();
        fullTable();
        Due.end("ChangeTest");
    }

    private static TableEngine threeRows() {
        TableEngine x = new TableEngine();
        x.insert(1, 1, 10, 100, 0);
        x.insert(1, 2, 20, 200, 2);
        x.insert(1, 3, 30, 300, 0);
        return x;
    }

    private static void wrongInputs() {
        TableEngine x = threeRows();
        Due.is("no source", x.change(0, 0, 7), Due.BAD);
        x.source(1);
        Due.is("column -1", x.change(-1, 0, 7), Due.BAD);
        Due.is("column 3", x.change(3, 0, 7), Due.BAD);
        Due.is("column greatest", x.change(MAX, 0, 7), Due.BAD);
        Due.is("how -1", x.change(0, -1, 7), Due.BAD);
        Due.is("how 3", x.change(0, 3, 7), Due.BAD);
        Due.is("how least", x.change(0, MIN, 7), Due.BAD);
        x.source(1);
        Due.is("two sources", x.change(0, 0, 7), Due.BAD);
        x.source(1);
        Due.is("three sources", x.change(0, 0, 7), Due.BAD);
        Due.table("nothing is changed", x, 1, 1, 10, 100, 2, Due.NULL, 200, 3, 30, 300);
    }

    private static void set() {
        TableEngine x = threeRows();
        x.insert(0, 5, 5, 5, 0);
        x.source(1);
        x.condition(0, 0, 2, false, 3);
        Due.is("two rows hold", x.change(1, 0, 7), 2);
        Due.table("set, also where it was NULL", x, 1, 1, 7, 100, 2, 7, 200, 3, 30, 300);
        Due.is("again, they count also where nothing changes", x.change(1, 0, 7), 2);
        Due.is("extreme", x.change(2, 0, MIN), 2);
        Due.is("extreme", x.value(1, 0, 2), MIN);
        Due.table("another table", x, 0, 5, 5, 5);
        x.condition(0, 0, 4, false, 0);
        Due.is("none holds", x.change(0, 0, 9), 0);
        Due.is("the draft stays", x.wipe(), 1);
    }

    private static void clear() {
        TableEngine x = threeRows();
        x.source(1);
        x.condition(0, 1, 5, false, 0);
        Due.is("two rows hold", x.change(2, 1, 7), 2);
        Due.table("NULL", x, 1, 1, 10, Due.NULL, 2, Due.NULL, 200, 3, 30, Due.NULL);
    }

    private static void add() {
        TableEngine x = threeRows();
        x.source(1);
        Due.is("all hold", x.change(1, 2, 5), 3);
        Due.table("more, NULL stays", x, 1, 1, 15, 100, 2, Due.NULL, 200, 3, 35, 300);
        Due.is("less", x.change(1, 2, -16), 3);
        Due.table("less", x, 1, 1, -1, 100, 2, Due.NULL, 200, 3, 19, 300);
        x.change(0, 0, MAX);
        Due.is("wrapping up", x.change(0, 2, 1), 3);
        Due.is("wrapped", x.value(1, 0, 0), MIN);
        Due.is("wrapping down", x.change(0, 2, -2), 3);
        Due.is("wrapped", x.value(1, 2, 0), MAX - 1);
        x.change(0, 0, MIN);
        x.change(0, 2, MIN);
        Due.is("least and least", x.value(1, 1, 0), 0);
    }

    private static void allAtOnce() {
        TableEngine x = new TableEngine();
        for (int i = 1; i <= 4; i++) {
            x.insert(2, i, 0, 0, 0);
        }
        x.constrain(2, 0, 0, 0, 0);
        x.source(2);
        Due.is("each becomes what its neighbour was", x.change(0, 2, 1), 4);
        Due.is("first", x.value(2, 0, 0), 2);
        Due.is("last", x.value(2, 3, 0), 5);
        Due.is("and the other way", x.change(0, 2, -1), 4);
        Due.is("first", x.value(2, 0, 0), 1);
    }

    private static void conditionsSeeTheOldValues() {
        TableEngine x = new TableEngine();
        x.insert(0, 1, 2, 0, 0);
        x.insert(0, 2, 2, 0, 0);
        x.insert(0, 3, 2, 0, 0);
        x.source(0);
        x.condition(0, 0, 3, true, 1);
        Due.is("two hold", x.change(0, 2, 1), 2);
        Due.table("two changed", x, 0, 2, 2, 0, 3, 2, 0, 3, 2, 0);
        Due.is("one still holds", x.change(0, 2, 1), 1);
    }

    private static void unique() {
        TableEngine x = threeRows();
        x.constrain(1, 0, 0, 0, 0);
        x.source(1);
        Due.is("all the same", x.change(0, 0, 9), Due.VIOLATED);
        x.condition(0, 0, 0, false, 1);
        Due.is("the same as one that doesn't hold", x.change(0, 0, 3), Due.VIOLATED);
        Due.is("more, the same as one that doesn't hold", x.change(0, 2, 1), Due.VIOLATED);
        Due.table("nothing is changed", x, 1, 1, 10, 100, 2, Due.NULL, 200, 3, 30, 300);
        Due.is("the same as itself", x.change(0, 0, 1), 1);
        Due.is("another", x.change(0, 0, 4), 1);
        x.wipe();
        x.source(1);
        Due.is("all NULL", x.change(0, 1, 0), 3);
    }

    private static void required() {
        TableEngine x = threeRows();
        x.constrain(1, 0, 1, 0, 0);
        x.source(1);
        Due.is("NULL", x.change(0, 1, 0), Due.VIOLATED);
        Due.table("nothing is changed", x, 1, 1, 10, 100, 2, Due.NULL, 200, 3, 30, 300);
        Due.is("an int", x.change(0, 0, 0), 3);
        x.condition(0, 1, 0, false, 99);
        Due.is("none holds", x.change(0, 1, 0), 0);
    }

    private static void referenceOfTheColumn() {
        for (int kind = 2; kind <= 4; kind++) {
            TableEngine x = threeRows();
            x.constrain(1, 0, 0, 0, 0);
            x.insert(0, 0, 1, 0, 0);
            x.insert(0, 0, 2, 0, 0);
            x.constrain(0, 1, kind, 1, 0);
            x.source(0);
            Due.is("to one that isn't there", x.change(1, 0, 4), Due.VIOLATED);
            Due.is("one is there, the other not", x.change(1, 2, 2), Due.VIOLATED);
            Due.table("nothing is changed", x, 0, 0, 1, 0, 0, 2, 0);
            Due.is("both are there", x.change(1, 2, 1), 2);
            Due.table("changed", x, 0, 0, 2, 0, 0, 3, 0);
            Due.is("both to the same", x.change(1, 0, 1), 2);
            Due.is("NULL", x.change(1, 1, 0), 2);
        }
    }

    private static void whatRefersToIt() {
        for (int kind = 2; kind <= 4; kind++) {
            TableEngine x = threeRows();
            x.constrain(1, 0, 0, 0, 0);
            x.constrain(0, 1, kind, 1, 0);
            x.insert(0, 0, 2, 0, 0);
            x.source(1);
            Due.is("it would be 12", x.change(0, 2, 10), Due.VIOLATED);
            Due.is("it would be NULL", x.change(0, 1, 0), Due.VIOLATED);
            Due.table("nothing is changed", x, 1, 1, 10, 100, 2, Due.NULL, 200, 3, 30, 300);
            Due.is("another row is 2 then", x.change(0, 2, 1), 3);
            Due.table("neither is what refers", x, 0, 0, 2, 0);
            x.condition(0, 0, 1, false, 2);
            Due.is("what isn't referred to", x.change(0, 2, 10), 2);
            Due.table("changed", x, 1, 2, 10, 100, 13, Due.NULL, 200, 14, 30, 300);
        }
    }

    private static void withinOneTable() {
        TableEngine x = new TableEngine();
        x.constrain(0, 0, 0, 0, 0);
        x.constrain(0, 1, 3, 0, 0);
        x.insert(0, 1, 1, 0, 0);
        x.insert(0, 2, 1, 0, 0);
        x.source(0);
        Due.is("what refers would be left", x.change(0, 2, 10), Due.VIOLATED);
        Due.is("it would refer to none", x.change(1, 2, 10), Due.VIOLATED);
        Due.is("it refers to the other", x.change(1, 2, 1), 2);
        Due.table("both refer to 2", x, 0, 1, 2, 0, 2, 2, 0);
        Due.is("1 becomes 2 and 2 becomes 3", x.change(0, 2, 1), 2);
        Due.table("both refer to the first", x, 0, 2, 2, 0, 3, 2, 0);
    }

    private static void everyPairOfColumns() {
        for (int from = 0; from < 9; from++) {
            for (int to = 0; to < 9; to++) {
                if (from == to) {
                    continue;
                }
                TableEngine x = new TableEngine();
                x.constrain(to / 3, to % 3, 0, 0, 0);
                x.constrain(from / 3, from % 3, 2, to / 3, to % 3);
                x.insert(to / 3, 1, 1, 1, 7 - (1 << to % 3));
                x.insert(from / 3, 1, 1, 1, 7 - (1 << from % 3));
                String what = "column " + from + " to " + to;
                x.source(to / 3);
                Due.is(what + ": what is referred to", x.change(to % 3, 2, 1), Due.VIOLATED);
                x.wipe();
                x.source(from / 3);
                Due.is(what + ": what refers", x.change(from % 3, 2, 1), Due.VIOLATED);
            }
        }
    }

    private static void fullTable() {
        TableEngine x = new TableEngine();
        for (int i = 0; i < 16; i++) {
            x.insert(1, i, i, i, 0);
        }
        x.constrain(1, 1, 0, 0, 0);
        x.source(1);
        Due.is("16 rows", x.change(1, 2, 1), 16);
        Due.is("16 rows, the same", x.change(1, 0, 1), Due.VIOLATED);
        x.condition(0, 0, 0, false, 15);
        Due.is("the last one, the same as the first", x.change(1, 0, 1), Due.VIOLATED);
        for (int i = 0; i < 16; i++) {
            Due.is("column 0", x.value(1, i, 0), i);
            Due.is("column 1", x.value(1, i, 1), i + 1);
            Due.is("column 2", x.value(1, i, 2), i);
        }
    }

    private static void otherColumnsDoNotMatter() {
        TableEngine x = threeRows();
        x.constrain(1, 0, 0, 0, 0);
        x.constrain(1, 0, 1, 0, 0);
        x.constrain(0, 0, 2, 1, 0);
        x.insert(0, 1, 0, 0, 0);
        x.source(1);
        Due.is("the column beside it", x.change(1, 0, 5), 3);
        Due.is("and NULL", x.change(1, 1, 5), 3);
    }
}
