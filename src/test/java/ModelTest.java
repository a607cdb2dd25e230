import java.util.ArrayList;
import java.util.List;

/** Long mixed runs of calls on TableEngine and on Model, which have to answer the same. All promises. */
public final class ModelTest {
    private static final int OBJECTS = 4000;
    /** With the reading of all tables at the end an object stays below the 512 calls that are promised. */
    private static final int MIXED_CALLS = 340;
    private static final int[] EXTREMES = {Integer.MIN_VALUE, Integer.MAX_VALUE, -1, 3, 7, 60, 61};

    private final TableEngine x = new TableEngine();
    private final Model y = new Model();
    private final List<String> told = new ArrayList<>();
    private final int values;
    private long state;
    private int calls = 0;
    private boolean differs = false;

    private ModelTest(long seed) {
        state = seed * 0x9E3779B97F4A7C15L + 1;
        values = 2 + below(12);
    }

    public static void main(String[] args) {
        int objects = args.length > 0 ? Integer.parseInt(args[0]) : OBJECTS;
        int[] seen = new int[5];
        for (int i = 0; i < objects; i++) {
            new ModelTest(i).go(seen);
        }
        // A mixture that never met one of the answers would test nothing of it.
        for (int i = 1; i < 5; i++) {
            Due.is("the runs met the answer " + -i, seen[i] > 100, true);
        }
        Due.end("ModelTest");
    }

    /** The same numbers on every machine and in every run. */
    private int below(int n) {
        state = state * 6364136223846793005L + 1442695040888963407L;
        return (int) ((state >>> 33) % n);
    }

    private boolean oneIn(int n) {
        return below(n) == 0;
    }

    /** Mostly a number below n, now and then one that may be wrong. */
    private int pick(int n) {
        return oneIn(60) ? EXTREMES[below(EXTREMES.length)] : below(n);
    }

    private int anInt() {
        return oneIn(80) ? EXTREMES[below(EXTREMES.length)] : below(values);
    }

    private void go(int[] seen) {
        if (below(4) > 0) {
            prepare(seen);
        }
        while (calls < MIXED_CALLS && !differs) {
            mixed(seen);
        }
        readAll(seen);
    }

    private void same(String call, long got, long want, int[] seen) {
        calls++;
        told.add(call + " = " + got);
        if (want < 0 && want > -5 && !call.startsWith("value") && !call.startsWith("cell")) {
            seen[(int) -want]++;
        }
        if (got != want && !differs) {
            differs = true;
            Due.is(String.join("\n", told) + "\nthe last of these calls", got, want);
        }
    }

    private void same(String call, boolean got, boolean want, int[] seen) {
        same(call, got ? 1L : 0L, want ? 1L : 0L, seen);
    }

    /** Constraints before there are rows: behind them they would mostly be VIOLATED. */
    private void prepare(int[] seen) {
        for (int i = below(4); i >= 0; i--) {
            constrain(below(3), below(3), 0, 0, 0, seen);
        }
        for (int i = below(14); i >= 0; i--) {
            constrain(below(3), below(3), 2 + below(3), below(3), below(3), seen);
        }
    }

    private void mixed(int[] seen) {
        int what = below(100);
        if (what < 42) {
            insert(seen);
        } else if (what < 48) {
            constrain(pick(3), pick(3), oneIn(4) ? pick(6) : 2 + below(3), pick(3), pick(3), seen);
        } else if (what < 51) {
            same("begin()", x.begin(), y.begin(), seen);
        } else if (what < 54) {
            boolean keep = oneIn(2);
            same("end(" + keep + ")", x.end(keep), y.end(keep), seen);
        } else if (what < 58) {
            int t = pick(3);
            same("rows(" + t + ")", x.rows(t), y.rows(t), seen);
        } else if (what < 63) {
            value(pick(3), pick(8), pick(3), seen);
        } else if (what < 78) {
            statement(seen);
        } else if (what < 86) {
            query(seen);
        } else {
            draftCall(seen);
        }
    }

    private void constrain(int t, int c, int kind, int u, int d, int[] seen) {
        String call = "constrain(" + t + ", " + c + ", " + kind + ", " + u + ", " + d + ")";
        same(call, x.constrain(t, c, kind, u, d), y.constrain(t, c, kind, u, d), seen);
    }

    private void insert(int[] seen) {
        int t = pick(3);
        int a = anInt();
        int b = anInt();
        int c = anInt();
        int nulls = oneIn(2) ? 0 : pick(8);
        String call = "insert(" + t + ", " + a + ", " + b + ", " + c + ", " + nulls + ")";
        same(call, x.insert(t, a, b, c, nulls), y.insert(t, a, b, c, nulls), seen);
    }

    private void value(int t, int i, int c, int[] seen) {
        same("value(" + t + ", " + i + ", " + c + ")", x.value(t, i, c), y.value(t, i, c), seen);
    }

    private void statement(int[] seen) {
        wipe(seen);
        source(seen);
        for (int i = below(3); i > 0; i--) {
            condition(1, seen);
        }
        if (oneIn(2)) {
            same("erase()", x.erase(), y.erase(), seen);
        } else {
            change(seen);
        }
        value(below(3), below(4), below(3), seen);
    }

    private void change(int[] seen) {
        int c = pick(3);
        int how = pick(3);
        int v = how == 2 && oneIn(2) ? 1 - 2 * below(2) : anInt();
        same("change(" + c + ", " + how + ", " + v + ")", x.change(c, how, v), y.change(c, how, v), seen);
    }

    private void query(int[] seen) {
        wipe(seen);
        int sources = 1 + below(3);
        for (int i = 0; i < sources; i++) {
            source(seen);
        }
        for (int i = below(2 * sources); i > 0; i--) {
            condition(sources, seen);
        }
        boolean plain = oneIn(2);
        for (int i = below(4); i >= 0; i--) {
            output(plain || oneIn(3) ? 0 : 1 + below(6), sources, seen);
        }
        for (int i = below(3); i > 0; i--) {
            key(seen);
        }
        if (oneIn(2)) {
            limit(seen);
        }
        run(seen);
    }

    private void draftCall(int[] seen) {
        switch (below(9)) {
            case 0:
                source(seen);
                break;
            case 1:
                condition(3, seen);
                break;
            case 2:
                output(pick(7), 3, seen);
                break;
            case 3:
                key(seen);
                break;
            case 4:
                limit(seen);
                break;
            case 5:
                run(seen);
                break;
            case 6:
                change(seen);
                break;
            case 7:
                same("erase()", x.erase(), y.erase(), seen);
                break;
            default:
                cell(pick(8), pick(4), seen);
        }
    }

    private void wipe(int[] seen) {
        same("wipe()", x.wipe(), y.wipe(), seen);
    }

    private void source(int[] seen) {
        int t = pick(3);
        same("source(" + t + ")", x.source(t), y.source(t), seen);
    }

    private void condition(int sources, int[] seen) {
        int s = pick(sources);
        int c = pick(3);
        int op = oneIn(2) ? 0 : pick(6);
        boolean column = sources > 1 && !oneIn(4) || oneIn(6);
        int v = column ? pick(3 * sources) : anInt();
        String call = "condition(" + s + ", " + c + ", " + op + ", " + column + ", " + v + ")";
        same(call, x.condition(s, c, op, column, v), y.condition(s, c, op, column, v), seen);
    }

    private void output(int kind, int sources, int[] seen) {
        int s = pick(sources);
        int c = pick(3);
        same("output(" + kind + ", " + s + ", " + c + ")", x.output(kind, s, c), y.output(kind, s, c), seen);
    }

    private void key(int[] seen) {
        int k = pick(4);
        boolean falling = oneIn(2);
        same("key(" + k + ", " + falling + ")", x.key(k, falling), y.key(k, falling), seen);
    }

    private void limit(int[] seen) {
        int n = oneIn(2) ? 60 : pick(20);
        boolean only = oneIn(2);
        same("limit(" + n + ", " + only + ")", x.limit(n, only), y.limit(n, only), seen);
    }

    private void run(int[] seen) {
        int n = y.run();
        same("run()", x.run(), n, seen);
        for (int i = 0; i < 4; i++) {
            cell(below(n > 0 ? n + 1 : 2), below(5), seen);
        }
    }

    private void cell(int i, int k, int[] seen) {
        same("cell(" + i + ", " + k + ")", x.cell(i, k), y.cell(i, k), seen);
    }

    private void readAll(int[] seen) {
        for (int t = 0; t < 3; t++) {
            same("rows(" + t + ")", x.rows(t), y.rows(t), seen);
            for (int i = 0; i < 48; i++) {
                value(t, i / 3, i % 3, seen);
            }
        }
    }
}
