import java.util.ArrayList;
import java.util.Arrays;
import java.util.Comparator;
import java.util.HashSet;
import java.util.LinkedHashMap;
import java.util.List;
import java.util.Map;
import java.util.Objects;
import java.util.Set;
import java.util.function.Predicate;

/**
 * The document told a second time, with the Java library and without thought of speed: a statement is tried on a copy
 * of the tables, and stays if all constraints fit the copy. ModelTest holds TableEngine against it.
 */
final class Model {
    /** A reference of a column: where to, and its action. */
    private record Reference(int table, int column, int action) {
    }

    private record Condition(int source, int column, int op, boolean hasColumn, int v) {
    }

    private record Output(int kind, int source, int column) {
    }

    private record Key(int output, boolean falling) {
    }

    /** Rows and constraints; a NULL is Java's null here. */
    private static final class Tables {
        final List<List<Long[]>> rows = new ArrayList<>();
        final boolean[][] unique = new boolean[3][3];
        final boolean[][] required = new boolean[3][3];
        final Reference[][] references = new Reference[3][3];

        Tables() {
            for (int t = 0; t < 3; t++) {
                rows.add(new ArrayList<>());
            }
        }

        Tables copy() {
            Tables other = new Tables();
            for (int t = 0; t < 3; t++) {
                for (Long[] row : rows.get(t)) {
                    other.rows.get(t).add(row.clone());
                }
                for (int c = 0; c < 3; c++) {
                    other.unique[t][c] = unique[t][c];
                    other.required[t][c] = required[t][c];
                    other.references[t][c] = references[t][c];
                }
            }
            return other;
        }

        List<Long> column(int t, int c) {
            List<Long> values = new ArrayList<>();
            for (Long[] row : rows.get(t)) {
                values.add(row[c]);
            }
            return values;
        }

        List<Long> ints(int t, int c) {
            List<Long> values = column(t, c);
            values.removeIf(Objects::isNull);
            return values;
        }

        boolean fits() {
            for (int t = 0; t < 3; t++) {
                for (int c = 0; c < 3; c++) {
                    List<Long> ints = ints(t, c);
                    Reference r = references[t][c];
                    if (unique[t][c] && new HashSet<>(ints).size() < ints.size()
                        || required[t][c] && ints.size() < rows.get(t).size()
                        || r != null && !ints(r.table, r.column).containsAll(ints)) {
                        return false;
                    }
                }
            }
            return true;
        }
    }

    private Tables tables = new Tables();
    private Tables atBeginning = null;
    private final List<Integer> sources = new ArrayList<>();
    private final List<Condition> conditions = new ArrayList<>();
    private final List<Output> outputs = new ArrayList<>();
    private final List<Key> keys = new ArrayList<>();
    private int most = 60;
    private boolean distinct = false;
    private List<List<Long>> result = new ArrayList<>();

    private static boolean in(int i, int n) {
        return 0 <= i && i < n;
    }

    private int tryOut(Tables tried, int answer) {
        if (!tried.fits()) {
            return Due.VIOLATED;
        }
        tables = tried;
        return answer;
    }

    int constrain(int t, int c, int kind, int u, int d) {
        if (!in(t, 3) || !in(c, 3) || !in(kind, 6)) {
            return Due.BAD;
        }
        Tables tried = tables.copy();
        if (kind == 0) {
            tried.unique[t][c] = true;
        } else if (kind == 1) {
            tried.required[t][c] = true;
        } else if (kind < 5) {
            if (!in(u, 3) || !in(d, 3) || t == u && c == d || !tables.unique[u][d]) {
                return Due.BAD;
            }
            tried.references[t][c] = new Reference(u, d, kind - 2);
        } else {
            for (Reference[] some : tables.references) {
                for (Reference r : some) {
                    if (r != null && r.table == t && r.column == c) {
                        return Due.BAD;
                    }
                }
            }
            tried.unique[t][c] = false;
            tried.required[t][c] = false;
            tried.references[t][c] = null;
        }
        return tryOut(tried, 0);
    }

    int insert(int t, int a, int b, int c, int nulls) {
        if (!in(t, 3) || !in(nulls, 8)) {
            return Due.BAD;
        }
        if (tables.rows.get(t).size() == 16) {
            return Due.FULL;
        }
        Long[] row = {(long) a, (long) b, (long) c};
        for (int k = 0; k < 3; k++) {
            if ((nulls >> k & 1) == 1) {
                row[k] = null;
            }
        }
        Tables tried = tables.copy();
        tried.rows.get(t).add(row);
        return tryOut(tried, tried.rows.get(t).size());
    }

    int erase() {
        if (sources.size() != 1) {
            return Due.BAD;
        }
        Tables tried = tables.copy();
        Set<Long[]> erased = new HashSet<>();
        for (Long[] row : tried.rows.get(sources.get(0))) {
            if (holds(List.<Long[]>of(row))) {
                erased.add(row);
            }
        }
        int before = -1;
        while (before < erased.size()) {
            before = erased.size();
            visitLost(tried, erased, 1, (row, c) -> erased.add(row));
        }
        visitLost(tried, erased, 2, (row, c) -> row[c] = null);
        for (List<Long[]> rows : tried.rows) {
            rows.removeIf(erased::contains);
        }
        return tryOut(tried, erased.size());
    }

    private interface Visit {
        void at(Long[] row, int c);
    }

    /** Visits what rows that aren't erased refer with to an erased row, where the reference has that action. */
    private static void visitLost(Tables x, Set<Long[]> erased, int action, Visit visit) {
        for (int t = 0; t < 3; t++) {
            for (int c = 0; c < 3; c++) {
                Reference r = x.references[t][c];
                if (r == null || r.action != action) {
                    continue;
                }
                for (Long[] row : x.rows.get(t)) {
                    Long v = row[c];
                    Predicate<Long[]> isMeant = other -> v != null && v.equals(other[r.column]);
                    boolean lost = x.rows.get(r.table).stream().filter(isMeant).anyMatch(erased::contains);
                    if (lost && !erased.contains(row)) {
                        visit.at(row, c);
                    }
                }
            }
        }
    }

    int change(int c, int how, int v) {
        if (sources.size() != 1 || !in(c, 3) || !in(how, 3)) {
            return Due.BAD;
        }
        Tables tried = tables.copy();
        int n = 0;
        for (Long[] row : tried.rows.get(sources.get(0))) {
            if (holds(List.<Long[]>of(row))) {
                n++;
                if (how == 0) {
                    row[c] = (long) v;
                } else if (how == 1) {
                    row[c] = null;
                } else if (row[c] != null) {
                    row[c] = (long) (int) (row[c] + v);
                }
            }
        }
        return tryOut(tried, n);
    }

    boolean begin() {
        if (atBeginning != null) {
            return false;
        }
        atBeginning = tables.copy();
        return true;
    }

    boolean end(boolean keep) {
        if (atBeginning == null) {
            return false;
        }
        if (!keep) {
            tables = atBeginning;
        }
        atBeginning = null;
        return true;
    }

    int source(int t) {
        if (!in(t, 3)) {
            return Due.BAD;
        }
        if (sources.size() == 3) {
            return Due.FULL;
        }
        sources.add(t);
        return sources.size() - 1;
    }

    int condition(int s, int c, int op, boolean column, int v) {
        if (!in(s, sources.size()) || !in(c, 3) || !in(op, 6) || column && !in(v, 3 * sources.size())) {
            return Due.BAD;
        }
        if (conditions.size() == 6) {
            return Due.FULL;
        }
        conditions.add(new Condition(s, c, op, column, v));
        return conditions.size();
    }

    int output(int kind, int s, int c) {
        if (!in(kind, 7) || kind != 1 && (!in(s, sources.size()) || !in(c, 3))) {
            return Due.BAD;
        }
        if (outputs.size() == 4) {
            return Due.FULL;
        }
        outputs.add(new Output(kind, s, c));
        return outputs.size() - 1;
    }

    int key(int k, boolean falling) {
        if (!in(k, outputs.size())) {
            return Due.BAD;
        }
        if (keys.size() == 2) {
            return Due.FULL;
        }
        keys.add(new Key(k, falling));
        return keys.size();
    }

    boolean limit(int limit, boolean only) {
        if (!in(limit, 61)) {
            return false;
        }
        most = limit;
        distinct = only;
        return true;
    }

    int wipe() {
        int had = sources.size();
        sources.clear();
        conditions.clear();
        outputs.clear();
        keys.clear();
        most = 60;
        distinct = false;
        return had;
    }

    private boolean holds(List<Long[]> combination) {
        return conditions.stream().allMatch(x -> isTrue(x, combination));
    }

    private static boolean isTrue(Condition x, List<Long[]> combination) {
        Long a = combination.get(x.source)[x.column];
        if (x.op >= 4) {
            return (a == null) == (x.op == 4);
        }
        Long b = x.hasColumn ? combination.get(x.v / 3)[x.v % 3] : Long.valueOf(x.v);
        if (a == null || b == null) {
            return false;
        }
        int order = a.compareTo(b);
        return x.op == 0 ? order == 0 : x.op == 1 ? order != 0 : x.op == 2 ? order < 0 : order <= 0;
    }

    private List<List<Long[]>> combinations() {
        List<List<Long[]>> all = new ArrayList<>();
        all.add(new ArrayList<>());
        for (int t : sources) {
            List<List<Long[]>> longer = new ArrayList<>();
            for (List<Long[]> some : all) {
                for (Long[] row : tables.rows.get(t)) {
                    List<Long[]> more = new ArrayList<>(some);
                    more.add(row);
                    longer.add(more);
                }
            }
            all = longer;
        }
        all.removeIf(x -> !holds(x));
        return all;
    }

    int run() {
        result = new ArrayList<>();
        if (sources.isEmpty() || outputs.isEmpty()) {
            return Due.BAD;
        }
        List<List<Long>> made = new ArrayList<>();
        for (List<List<Long[]>> group : groups()) {
            List<Long> row = new ArrayList<>();
            for (Output x : outputs) {
                row.add(told(x, group));
            }
            if (!distinct || !made.contains(row)) {
                made.add(row);
            }
        }
        if (made.size() > 60) {
            return Due.TOO_MANY;
        }
        for (int i = keys.size() - 1; i >= 0; i--) {
            Key x = keys.get(i);
            Comparator<Long> rising = Comparator.nullsFirst(Comparator.naturalOrder());
            Comparator<Long> order = x.falling ? rising.reversed() : rising;
            made.sort((a, b) -> order.compare(a.get(x.output), b.get(x.output)));
        }
        result = made.subList(0, Math.min(most, made.size()));
        return result.size();
    }

    private List<List<List<Long[]>>> groups() {
        Map<List<Long>, List<List<Long[]>>> groups = new LinkedHashMap<>();
        List<List<List<Long[]>>> alone = new ArrayList<>();
        if (outputs.stream().noneMatch(x -> x.kind == 0)) {
            groups.put(new ArrayList<>(), new ArrayList<>());
        }
        for (List<Long[]> combination : combinations()) {
            List<Long> values = new ArrayList<>();
            for (Output x : outputs) {
                if (x.kind == 0) {
                    values.add(combination.get(x.source)[x.column]);
                }
            }
            groups.computeIfAbsent(values, none -> new ArrayList<>()).add(combination);
            alone.add(Arrays.asList(combination));
        }
        return outputs.stream().allMatch(x -> x.kind == 0) ? alone : new ArrayList<>(groups.values());
    }

    private static Long told(Output x, List<List<Long[]>> group) {
        if (x.kind == 0) {
            return group.get(0).get(x.source)[x.column];
        }
        if (x.kind == 1) {
            return (long) group.size();
        }
        List<Long> ints = new ArrayList<>();
        for (List<Long[]> combination : group) {
            ints.add(combination.get(x.source)[x.column]);
        }
        ints.removeIf(Objects::isNull);
        switch (x.kind) {
            case 2:
                return (long) ints.size();
            case 3:
                return ints.stream().reduce(Long::sum).orElse(null);
            case 4:
                return ints.stream().min(Comparator.naturalOrder()).orElse(null);
            case 5:
                return ints.stream().max(Comparator.naturalOrder()).orElse(null);
            default:
                return ints.stream().distinct().count();
        }
    }

    private static long shown(Long v) {
        return v == null ? Due.NULL : v;
    }

    long cell(int i, int k) {
        return in(i, result.size()) && in(k, result.get(i).size()) ? shown(result.get(i).get(k)) : Due.NULL;
    }

    int rows(int t) {
        return in(t, 3) ? tables.rows.get(t).size() : Due.BAD;
    }

    long value(int t, int i, int c) {
        boolean isThere = in(t, 3) && in(c, 3) && in(i, tables.rows.get(t).size());
        return isThere ? shown(tables.rows.get(t).get(i)[c]) : Due.NULL;
    }
}
