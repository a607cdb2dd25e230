/**
 * Three small tables with constraints, a draft from which statements and queries are made, and one transaction.
 *
 * A column is known by one number, 3 * table + column, and a row of any table by 16 * table + row.
 * A column of a source is known by 3 * source + column, as in the calls that make conditions.
 */
public final class TableEngine {
    public static final int OK = 0, BAD = -1, FULL = -2, VIOLATED = -3, TOO_MANY = -4;
    public static final long NULL = -9000000000000000000L;

    private static final int TABLES = 3;
    private static final int WIDTH = 3;
    private static final int ROWS = 16;
    private static final int ALL_COLUMNS = 9;
    private static final int ALL_ROWS = 48;
    private static final int ALL_CELLS = 144;
    private static final int SOURCES = 3;
    private static final int CONDITIONS = 6;
    private static final int OUTPUTS = 4;
    private static final int KEYS = 2;
    private static final int RESULT_ROWS = 60;
    private static final int RESULT_CELLS = 240;

    private static final int NONE = -1;
    private static final int REFUSE = 0, CASCADE = 1, CLEAR = 2;
    private static final int PLAIN = 0, COMBINATIONS = 1, COUNT = 2, SUM = 3, LEAST = 4, GREATEST = 5, DIFFERENT = 6;

    private final long[] cells = new long[ALL_CELLS];
    private final int[] rowCount = new int[TABLES];
    private final boolean[] unique = new boolean[ALL_COLUMNS];
    private final boolean[] required = new boolean[ALL_COLUMNS];
    private final int[] target = new int[ALL_COLUMNS];
    private final int[] action = new int[ALL_COLUMNS];

    private final long[] savedCells = new long[ALL_CELLS];
    private final int[] savedRowCount = new int[TABLES];
    private final boolean[] savedUnique = new boolean[ALL_COLUMNS];
    private final boolean[] savedRequired = new boolean[ALL_COLUMNS];
    private final int[] savedTarget = new int[ALL_COLUMNS];
    private final int[] savedAction = new int[ALL_COLUMNS];
    private boolean transactionOpen = false;

    private final int[] sourceTable = new int[SOURCES];
    private int sources = 0;
    private final int[] conditionFirst = new int[CONDITIONS];
    private final int[] conditionOp = new int[CONDITIONS];
    private final boolean[] conditionHasColumn = new boolean[CONDITIONS];
    private final int[] conditionSecond = new int[CONDITIONS];
    private int conditions = 0;
    private final int[] outputKind = new int[OUTPUTS];
    private final int[] outputColumn = new int[OUTPUTS];
    private int outputs = 0;
    private final int[] keyOutput = new int[KEYS];
    private final boolean[] keyFalls = new boolean[KEYS];
    private int keys = 0;
    private int mostRows = RESULT_ROWS;
    private boolean distinctRows = false;

    private final int[] combination = new int[SOURCES];
    private final boolean[] marked = new boolean[ALL_ROWS];
    private final long[] formerValues = new long[ROWS];
    private final long[] outputValues = new long[OUTPUTS];

    private final long[] result = new long[RESULT_CELLS];
    private final int[] rowsCounted = new int[RESULT_CELLS];
    private int resultRows = 0;
    private int resultWidth = 0;

    public TableEngine() {
        for (int column = 0; column < ALL_COLUMNS; column++) {
            target[column] = NONE;
        }
    }

    // ---- constraints ----

    public int constrain(int t, int c, int kind, int u, int d) {
        if (isOutside(t) || isOutside(c)) {
            return BAD;
        }
        int column = WIDTH * t + c;
        switch (kind) {
            case 0:
                return makeUnique(column);
            case 1:
                return makeRequired(column);
            case 2:
            case 3:
            case 4:
                if (isOutside(u) || isOutside(d)) {
                    return BAD;
                }
                return makeReference(column, WIDTH * u + d, kind - 2);
            case 5:
                return makeFree(column);
            default:
                return BAD;
        }
    }

    private int makeUnique(int column) {
        if (hasRepeatedInt(column)) {
            return VIOLATED;
        }
        unique[column] = true;
        return OK;
    }

    private int makeRequired(int column) {
        if (hasNull(column)) {
            return VIOLATED;
        }
        required[column] = true;
        return OK;
    }

    private int makeReference(int column, int to, int what) {
        if (to == column || !unique[to]) {
            return BAD;
        }
        if (hasStrayInt(column, to)) {
            return VIOLATED;
        }
        target[column] = to;
        action[column] = what;
        return OK;
    }

    private int makeFree(int column) {
        for (int from = 0; from < ALL_COLUMNS; from++) {
            if (target[from] == column) {
                return BAD;
            }
        }
        unique[column] = false;
        required[column] = false;
        target[column] = NONE;
        return OK;
    }

    private static boolean isOutside(int tableOrColumn) {
        return tableOrColumn < 0 || tableOrColumn > 2;
    }

    private boolean hasRepeatedInt(int column) {
        int n = rowCount[column / WIDTH];
        int start = ROWS * column;
        for (int i = 1; i < n; i++) {
            for (int j = 0; j < i; j++) {
                if (cells[start + i] != NULL && cells[start + i] == cells[start + j]) {
                    return true;
                }
            }
        }
        return false;
    }

    private boolean hasNull(int column) {
        return rowWith(column, NULL) != NONE;
    }

    private boolean hasStrayInt(int column, int to) {
        int n = rowCount[column / WIDTH];
        for (int i = 0; i < n; i++) {
            long v = cells[ROWS * column + i];
            if (v != NULL && rowWith(to, v) == NONE) {
                return true;
            }
        }
        return false;
    }

    private int rowWith(int column, long v) {
        int t = column / WIDTH;
        int n = rowCount[t];
        for (int i = 0; i < n; i++) {
            if (cells[ROWS * column + i] == v) {
                return ROWS * t + i;
            }
        }
        return NONE;
    }

    private boolean columnFits(int column) {
        if (unique[column] && hasRepeatedInt(column)) {
            return false;
        }
        if (required[column] && hasNull(column)) {
            return false;
        }
        return target[column] == NONE || !hasStrayInt(column, target[column]);
    }

    // ---- statements ----

    public int insert(int t, int a, int b, int c, int nulls) {
        if (isOutside(t) || nulls < 0 || nulls > 7) {
            return BAD;
        }
        int i = rowCount[t];
        if (i >= ROWS) {
            return FULL;
        }
        int first = WIDTH * t;
        cells[ROWS * first + i] = (nulls & 1) != 0 ? NULL : a;
        cells[ROWS * (first + 1) + i] = (nulls & 2) != 0 ? NULL : b;
        cells[ROWS * (first + 2) + i] = (nulls & 4) != 0 ? NULL : c;
        // The row counts before it is tested, since it may refer to itself.
        rowCount[t] = i + 1;
        if (!columnFits(first) || !columnFits(first + 1) || !columnFits(first + 2)) {
            rowCount[t] = i;
            return VIOLATED;
        }
        return i + 1;
    }

    public int erase() {
        if (sources != 1) {
            return BAD;
        }
        markRowsThatHold();
        markRowsThatCascade();
        if (erasingViolates()) {
            return VIOLATED;
        }
        clearWhatRefersToMarked();
        return dropMarkedRows();
    }

    private int markRowsThatHold() {
        for (int row = 0; row < ALL_ROWS; row++) {
            marked[row] = false;
        }
        int t = sourceTable[0];
        int n = rowCount[t];
        int holding = 0;
        for (int i = 0; i < n; i++) {
            combination[0] = i;
            if (combinationHolds()) {
                marked[ROWS * t + i] = true;
                holding++;
            }
        }
        return holding;
    }

    private void markRowsThatCascade() {
        boolean grew = true;
        // Every pass but the last marks a row, so there are no more passes than rows.
        for (int pass = 0; pass < ALL_ROWS && grew; pass++) {
            grew = false;
            for (int column = 0; column < ALL_COLUMNS; column++) {
                if (action[column] == CASCADE && markReferringRows(column)) {
                    grew = true;
                }
            }
        }
    }

    private boolean markReferringRows(int column) {
        int t = column / WIDTH;
        int n = rowCount[t];
        boolean grew = false;
        for (int i = 0; i < n; i++) {
            if (losesItsTarget(column, i)) {
                marked[ROWS * t + i] = true;
                grew = true;
            }
        }
        return grew;
    }

    private boolean losesItsTarget(int column, int i) {
        if (target[column] == NONE || marked[ROWS * (column / WIDTH) + i]) {
            return false;
        }
        long v = cells[ROWS * column + i];
        if (v == NULL) {
            return false;
        }
        int row = rowWith(target[column], v);
        return row != NONE && marked[row];
    }

    private boolean erasingViolates() {
        for (int column = 0; column < ALL_COLUMNS; column++) {
            int n = rowCount[column / WIDTH];
            boolean refuses = action[column] == REFUSE || required[column];
            for (int i = 0; i < n; i++) {
                if (losesItsTarget(column, i) && (refuses || isReferredToByStaying(column, i))) {
                    return true;
                }
            }
        }
        return false;
    }

    private boolean isReferredToByStaying(int column, int i) {
        long v = cells[ROWS * column + i];
        for (int from = 0; from < ALL_COLUMNS; from++) {
            if (target[from] == column && stayingRowHas(from, v)) {
                return true;
            }
        }
        return false;
    }

    private boolean stayingRowHas(int column, long v) {
        int t = column / WIDTH;
        int n = rowCount[t];
        for (int i = 0; i < n; i++) {
            if (!marked[ROWS * t + i] && cells[ROWS * column + i] == v) {
                return true;
            }
        }
        return false;
    }

    private void clearWhatRefersToMarked() {
        for (int column = 0; column < ALL_COLUMNS; column++) {
            int n = rowCount[column / WIDTH];
            for (int i = 0; i < n; i++) {
                if (action[column] == CLEAR && losesItsTarget(column, i)) {
                    cells[ROWS * column + i] = NULL;
                }
            }
        }
    }

    private int dropMarkedRows() {
        int dropped = 0;
        for (int t = 0; t < TABLES; t++) {
            int n = rowCount[t];
            int kept = 0;
            for (int i = 0; i < n; i++) {
                if (!marked[ROWS * t + i]) {
                    copyRow(t, i, kept);
                    kept++;
                }
            }
            rowCount[t] = kept;
            dropped += n - kept;
        }
        return dropped;
    }

    private void copyRow(int t, int from, int to) {
        for (int c = 0; c < WIDTH; c++) {
            int start = ROWS * (WIDTH * t + c);
            cells[start + to] = cells[start + from];
        }
    }

    public int change(int c, int how, int v) {
        if (sources != 1 || isOutside(c) || how < 0 || how > 2) {
            return BAD;
        }
        int holding = markRowsThatHold();
        int column = WIDTH * sourceTable[0] + c;
        changeMarkedRows(column, how, v);
        if (changeViolates(column)) {
            takeChangeBack(column);
            return VIOLATED;
        }
        return holding;
    }

    private void changeMarkedRows(int column, int how, int v) {
        int t = column / WIDTH;
        int n = rowCount[t];
        for (int i = 0; i < n; i++) {
            long former = cells[ROWS * column + i];
            formerValues[i] = former;
            if (marked[ROWS * t + i]) {
                cells[ROWS * column + i] = changedValue(former, how, v);
            }
        }
    }

    private static long changedValue(long former, int how, int v) {
        if (how == 0) {
            return v;
        }
        if (how == 1 || former == NULL) {
            return NULL;
        }
        return (int) former + v;
    }

    private boolean changeViolates(int column) {
        if (!columnFits(column)) {
            return true;
        }
        for (int from = 0; from < ALL_COLUMNS; from++) {
            if (target[from] == column && hasStrayInt(from, column)) {
                return true;
            }
        }
        return false;
    }

    private void takeChangeBack(int column) {
        int n = rowCount[column / WIDTH];
        for (int i = 0; i < n; i++) {
            cells[ROWS * column + i] = formerValues[i];
        }
    }

    // ---- the transaction ----

    public boolean begin() {
        if (transactionOpen) {
            return false;
        }
        saveTables();
        transactionOpen = true;
        return true;
    }

    public boolean end(boolean keep) {
        if (!transactionOpen) {
            return false;
        }
        if (!keep) {
            restoreTables();
        }
        transactionOpen = false;
        return true;
    }

    private void saveTables() {
        for (int i = 0; i < ALL_CELLS; i++) {
            savedCells[i] = cells[i];
        }
        for (int t = 0; t < TABLES; t++) {
            savedRowCount[t] = rowCount[t];
        }
        for (int column = 0; column < ALL_COLUMNS; column++) {
            savedUnique[column] = unique[column];
            savedRequired[column] = required[column];
            savedTarget[column] = target[column];
            savedAction[column] = action[column];
        }
    }

    private void restoreTables() {
        for (int i = 0; i < ALL_CELLS; i++) {
            cells[i] = savedCells[i];
        }
        for (int t = 0; t < TABLES; t++) {
            rowCount[t] = savedRowCount[t];
        }
        for (int column = 0; column < ALL_COLUMNS; column++) {
            unique[column] = savedUnique[column];
            required[column] = savedRequired[column];
            target[column] = savedTarget[column];
            action[column] = savedAction[column];
        }
    }

    // ---- the draft ----

    public int source(int t) {
        if (isOutside(t)) {
            return BAD;
        }
        if (sources >= SOURCES) {
            return FULL;
        }
        sourceTable[sources] = t;
        sources++;
        return sources - 1;
    }

    public int condition(int s, int c, int op, boolean column, int v) {
        if (isNoSource(s) || isOutside(c) || op < 0 || op > 5) {
            return BAD;
        }
        if (column && (v < 0 || v >= WIDTH * sources)) {
            return BAD;
        }
        if (conditions >= CONDITIONS) {
            return FULL;
        }
        conditionFirst[conditions] = WIDTH * s + c;
        conditionOp[conditions] = op;
        conditionHasColumn[conditions] = column;
        conditionSecond[conditions] = v;
        conditions++;
        return conditions;
    }

    public int output(int kind, int s, int c) {
        if (kind < PLAIN || kind > DIFFERENT) {
            return BAD;
        }
        if (kind != COMBINATIONS && (isNoSource(s) || isOutside(c))) {
            return BAD;
        }
        if (outputs >= OUTPUTS) {
            return FULL;
        }
        outputKind[outputs] = kind;
        // The number of combinations is that of no column: s and c may be anything then, so they aren't kept.
        outputColumn[outputs] = kind == COMBINATIONS ? 0 : WIDTH * s + c;
        outputs++;
        return outputs - 1;
    }

    public int key(int k, boolean falling) {
        if (k < 0 || k >= outputs) {
            return BAD;
        }
        if (keys >= KEYS) {
            return FULL;
        }
        keyOutput[keys] = k;
        keyFalls[keys] = falling;
        keys++;
        return keys;
    }

    public boolean limit(int limit, boolean distinct) {
        if (limit < 0 || limit > RESULT_ROWS) {
            return false;
        }
        mostRows = limit;
        distinctRows = distinct;
        return true;
    }

    public int wipe() {
        int had = sources;
        sources = 0;
        conditions = 0;
        outputs = 0;
        keys = 0;
        mostRows = RESULT_ROWS;
        distinctRows = false;
        return had;
    }

    private boolean isNoSource(int s) {
        return s < 0 || s >= sources;
    }

    // ---- combinations ----

    private boolean combinationHolds() {
        for (int i = 0; i < conditions; i++) {
            if (!conditionIsTrue(i)) {
                return false;
            }
        }
        return true;
    }

    private boolean conditionIsTrue(int i) {
        int op = conditionOp[i];
        long first = valueInCombination(conditionFirst[i]);
        if (op == 4) {
            return first == NULL;
        }
        if (op == 5) {
            return first != NULL;
        }
        long second = conditionSecond[i];
        if (conditionHasColumn[i]) {
            second = valueInCombination(conditionSecond[i]);
        }
        if (first == NULL || second == NULL) {
            return false;
        }
        switch (op) {
            case 0:
                return first == second;
            case 1:
                return first != second;
            case 2:
                return first < second;
            default:
                return first <= second;
        }
    }

    private long valueInCombination(int sourceColumn) {
        int s = sourceColumn / WIDTH;
        int column = WIDTH * sourceTable[s] + sourceColumn % WIDTH;
        return cells[ROWS * column + combination[s]];
    }

    // ---- the result ----

    public int run() {
        resultRows = 0;
        if (sources == 0 || outputs == 0) {
            return BAD;
        }
        int plain = countPlainOutputs();
        if (plain == 0) {
            // The one row is there before any combination, since none may hold.
            startResultRow();
        }
        // Groups differ in their plain outputs already, so one way of joining serves groups and DISTINCT.
        if (!takeCombinations(plain < outputs || distinctRows)) {
            resultRows = 0;
            return TOO_MANY;
        }
        resultWidth = outputs;
        orderResult();
        if (resultRows > mostRows) {
            resultRows = mostRows;
        }
        return resultRows;
    }

    private int countPlainOutputs() {
        int plain = 0;
        for (int k = 0; k < outputs; k++) {
            if (outputKind[k] == PLAIN) {
                plain++;
            }
        }
        return plain;
    }

    private boolean takeCombinations(boolean join) {
        int n0 = rowsToCombine(0);
        int n1 = rowsToCombine(1);
        int n2 = rowsToCombine(2);
        for (int i = 0; i < n0; i++) {
            for (int j = 0; j < n1; j++) {
                for (int k = 0; k < n2; k++) {
                    combination[0] = i;
                    combination[1] = j;
                    combination[2] = k;
                    if (combinationHolds() && !takeCombination(join)) {
                        return false;
                    }
                }
            }
        }
        return true;
    }

    private int rowsToCombine(int s) {
        // A source that isn't there leaves the combinations as they are, as one row would.
        return s < sources ? rowCount[sourceTable[s]] : 1;
    }

    private boolean takeCombination(boolean join) {
        readOutputValues();
        int row = join ? resultRowAlike() : resultRows;
        if (row == resultRows) {
            if (resultRows >= RESULT_ROWS) {
                return false;
            }
            startResultRow();
        }
        for (int k = 0; k < outputs; k++) {
            addToOutput(OUTPUTS * row + k, k);
        }
        return true;
    }

    private void readOutputValues() {
        for (int k = 0; k < outputs; k++) {
            outputValues[k] = valueInCombination(outputColumn[k]);
        }
    }

    private int resultRowAlike() {
        for (int row = 0; row < resultRows; row++) {
            if (isAlike(row)) {
                return row;
            }
        }
        return resultRows;
    }

    private boolean isAlike(int row) {
        for (int k = 0; k < outputs; k++) {
            if (outputKind[k] == PLAIN && result[OUTPUTS * row + k] != outputValues[k]) {
                return false;
            }
        }
        return true;
    }

    private void startResultRow() {
        for (int k = 0; k < outputs; k++) {
            int place = OUTPUTS * resultRows + k;
            int kind = outputKind[k];
            rowsCounted[place] = 0;
            if (kind == PLAIN) {
                result[place] = outputValues[k];
            } else if (kind == SUM || kind == LEAST || kind == GREATEST) {
                result[place] = NULL;
            } else {
                result[place] = 0;
            }
        }
        resultRows++;
    }

    private void addToOutput(int place, int k) {
        int kind = outputKind[k];
        long v = outputValues[k];
        if (kind == PLAIN) {
            return;
        }
        if (kind == COMBINATIONS) {
            result[place]++;
        } else if (v == NULL) {
            return;
        } else if (kind == COUNT) {
            result[place]++;
        } else if (kind == DIFFERENT) {
            countIfNew(place, outputColumn[k], v);
        } else {
            result[place] = joinedInts(kind, result[place], v);
        }
    }

    private static long joinedInts(int kind, long former, long v) {
        if (former == NULL) {
            return v;
        }
        if (kind == SUM) {
            return former + v;
        }
        if (kind == LEAST) {
            return v < former ? v : former;
        }
        return v > former ? v : former;
    }

    // A bit for each row whose int has been counted tells the different ints apart without a list of them.
    private void countIfNew(int place, int sourceColumn, long v) {
        int s = sourceColumn / WIDTH;
        int column = WIDTH * sourceTable[s] + sourceColumn % WIDTH;
        for (int i = 0; i < ROWS; i++) {
            if ((rowsCounted[place] & (1 << i)) != 0 && cells[ROWS * column + i] == v) {
                return;
            }
        }
        rowsCounted[place] |= 1 << combination[s];
        result[place]++;
    }

    // Neighbours change places only where the keys differ, so that the order stays elsewhere.
    private void orderResult() {
        for (int i = 1; i < resultRows; i++) {
            for (int j = i; j > 0 && comesBefore(j, j - 1); j--) {
                swapResultRows(j, j - 1);
            }
        }
    }

    private boolean comesBefore(int row, int other) {
        for (int i = 0; i < keys; i++) {
            long x = result[OUTPUTS * row + keyOutput[i]];
            long y = result[OUTPUTS * other + keyOutput[i]];
            // NULL is less than every int and every sum as a number too.
            if (x != y) {
                return keyFalls[i] ? x > y : x < y;
            }
        }
        return false;
    }

    private void swapResultRows(int row, int other) {
        for (int k = 0; k < outputs; k++) {
            long former = result[OUTPUTS * row + k];
            result[OUTPUTS * row + k] = result[OUTPUTS * other + k];
            result[OUTPUTS * other + k] = former;
        }
    }

    // ---- reading ----

    public long cell(int i, int k) {
        if (i < 0 || i >= resultRows || k < 0 || k >= resultWidth) {
            return NULL;
        }
        return result[OUTPUTS * i + k];
    }

    public int rows(int t) {
        return isOutside(t) ? BAD : rowCount[t];
    }

    public long value(int t, int i, int c) {
        if (isOutside(t) || isOutside(c) || i < 0 || i >= rowCount[t]) {
            return NULL;
        }
        return cells[ROWS * (WIDTH * t + c) + i];
    }
}
