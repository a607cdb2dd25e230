/** Compares answers with those that are due, and tells at the end whether one differed. */
final class Due {
    static final long NULL = -9000000000000000000L;
    static final int BAD = -1, FULL = -2, VIOLATED = -3, TOO_MANY = -4;

    private static int asked = 0;
    private static int wrong = 0;
    private static String about = "";

    private Due() {
    }

    static void is(String what, long got, long want) {
        asked++;
        if (got != want) {
            wrong++;
            System.out.println(about + what + ": answered " + got + ", due is " + want);
        }
    }

    /** The answers asked from here on are told with these words before them. */
    static void about(String words) {
        about = words;
    }

    static int asked() {
        return asked;
    }

    static void is(String what, String got, String want) {
        asked++;
        if (!got.equals(want)) {
            wrong++;
            System.out.println(about + what + ": there is " + got + ", due is " + want);
        }
    }

    static void is(String what, boolean got, boolean want) {
        is(what, got ? 1L : 0L, want ? 1L : 0L);
    }

    /** The whole table t: its rows one after the other, three values each. */
    static void table(String what, TableEngine x, int t, long... want) {
        is(what + ", rows of table " + t, x.rows(t), want.length / 3);
        for (int i = 0; i < want.length; i++) {
            is(what + ", value(" + t + ", " + i / 3 + ", " + i % 3 + ")", x.value(t, i / 3, i % 3), want[i]);
        }
    }

    /** The whole result of a run: its rows one after the other, with as many values each as the draft has outputs. */
    static void result(String what, TableEngine x, int outputs, long... want) {
        int rows = want.length / outputs;
        is(what + ", run()", x.run(), rows);
        for (int i = 0; i < want.length; i++) {
            is(what + ", cell(" + i / outputs + ", " + i % outputs + ")", x.cell(i / outputs, i % outputs), want[i]);
        }
        is(what + ", cell behind the last row", x.cell(rows, 0), NULL);
        is(what + ", cell behind the last output", x.cell(0, outputs), NULL);
    }

    static void end(String test) {
        System.out.println(test + ": " + asked + " answers, " + wrong + " not as due");
        if (wrong != 0) {
            System.exit(1);
        }
    }
}
