public final class SchemaTwins {
    public static final int BAD = -1;
    public static final int FULL = -2;
    public static final int THERE = -3;
    public static final int HIDDEN = -4;
    public static final int NONE = -5;

    private static final int MAX_VERSIONS = 8;
    private static final int MAX_COLUMNS = 5;
    private static final int MAX_ROWS = 12;
    private static final int KEYS = 100;
    private static final int MAX_WHAT = 511;

    private static final int ADD = 0;
    private static final int DROP = 1;
    private static final int SHIFT = 2;
    private static final int ONLY = 3;
    private static final int EXCHANGE = 4;
    private static final int SUM = 5;

    // A row is tried out here first, behind the last key, so that a refused one leaves no trace.
    private static final int TRIAL = KEYS;
    private static final int ROW_CELLS = MAX_VERSIONS * MAX_COLUMNS;
    private static final int CELLS = (KEYS + 1) * ROW_CELLS;

    private int versions = 1;
    private int rows = 0;

    // The edit that made each version; those of version 0 are never read.
    private final int[] parent = new int[MAX_VERSIONS];
    private final int[] kind = new int[MAX_VERSIONS];
    private final int[] columnX = new int[MAX_VERSIONS];
    private final int[] columnZ = new int[MAX_VERSIONS];
    private final int[] number = new int[MAX_VERSIONS];
    private final int[] width = new int[MAX_VERSIONS];

    private final int[] drafted = new int[MAX_COLUMNS];
    private final boolean[] present = new boolean[KEYS];

    // Every row is kept in every version: free values then stay by being left alone,
    // and rows that are laid out by key are met in ascending order.
    private final int[] cells = new int[CELLS];

    // The versions whose values the spreading of a row has reached on its way to version 0.
    private final boolean[] reached = new boolean[MAX_VERSIONS];

    public SchemaTwins() {
        width[0] = 2;
    }

    public int edit(int v, int what, int y) {
        if (!isVersion(v) || what < 0 || what > MAX_WHAT) {
            return BAD;
        }
        if (versions == MAX_VERSIONS) {
            return FULL;
        }
        int how = what & 7;
        int x = (what >> 3) & 7;
        int z = (what >> 6) & 7;
        if (!editFits(v, how, x, z)) {
            return BAD;
        }
        int wide = width[v] + widening(how);
        if (wide < 1 || wide > MAX_COLUMNS) {
            return FULL;
        }
        int made = versions;
        parent[made] = v;
        kind[made] = how;
        columnX[made] = x;
        columnZ[made] = z;
        number[made] = y;
        width[made] = wide;
        versions++;
        fillVersion(made);
        return made;
    }

    public int retract() {
        if (versions == 1) {
            return BAD;
        }
        versions--;
        return versions;
    }

    public int columns(int v) {
        return isVersion(v) ? width[v] : BAD;
    }

    public boolean draft(int c, int value) {
        if (c < 0 || c >= MAX_COLUMNS) {
            return false;
        }
        drafted[c] = value;
        return true;
    }

    public int insert(int v, int key) {
        if (!isVersion(v) || !isKey(key)) {
            return BAD;
        }
        if (present[key]) {
            return THERE;
        }
        if (rows == MAX_ROWS) {
            return FULL;
        }
        int base = cellBase(TRIAL, v);
        for (int c = 0; c < width[v]; c++) {
            cells[base + c] = drafted[c];
        }
        spread(TRIAL, v, true);
        if (!passes(TRIAL, v)) {
            return HIDDEN;
        }
        copyRow(TRIAL, key);
        present[key] = true;
        rows++;
        return rows;
    }

    public int update(int v, int key, int c, int value) {
        if (!isColumn(v, c) || !isKey(key)) {
            return BAD;
        }
        if (!isShown(v, key)) {
            return NONE;
        }
        copyRow(key, TRIAL);
        int base = cellBase(TRIAL, v);
        cells[base + c] = value;
        spread(TRIAL, v, false);
        if (!passes(TRIAL, v)) {
            return HIDDEN;
        }
        copyRow(TRIAL, key);
        return 1;
    }

    public int delete(int v, int key) {
        if (!isVersion(v) || !isKey(key)) {
            return BAD;
        }
        if (!isShown(v, key)) {
            return NONE;
        }
        present[key] = false;
        rows--;
        return rows;
    }

    public boolean shown(int v, int key) {
        return isVersion(v) && isShown(v, key);
    }

    public int value(int v, int key, int c) {
        if (!isColumn(v, c) || !isShown(v, key)) {
            return 0;
        }
        int base = cellBase(key, v);
        return cells[base + c];
    }

    public int count(int v) {
        if (!isVersion(v)) {
            return BAD;
        }
        int found = 0;
        for (int key = 0; key < KEYS; key++) {
            if (isShown(v, key)) {
                found++;
            }
        }
        return found;
    }

    public int sum(int v, int c) {
        if (!isColumn(v, c)) {
            return 0;
        }
        int total = 0;
        for (int key = 0; key < KEYS; key++) {
            if (isShown(v, key)) {
                int base = cellBase(key, v);
                total += cells[base + c];
            }
        }
        return total;
    }

    public int key(int v, int k) {
        if (!isVersion(v)) {
            return BAD;
        }
        int before = 0;
        for (int key = 0; key < KEYS; key++) {
            if (isShown(v, key)) {
                if (before == k) {
                    return key;
                }
                before++;
            }
        }
        return NONE;
    }

    // Rows are kept in all versions, so there is no one place to move them to.
    public boolean home(int v) {
        return isVersion(v);
    }

    private boolean isVersion(int v) {
        return v >= 0 && v < versions;
    }

    private boolean isColumn(int v, int c) {
        return isVersion(v) && c >= 0 && c < width[v];
    }

    private boolean isKey(int key) {
        return key >= 0 && key < KEYS;
    }

    // Asked only of a v that is a version.
    private boolean isShown(int v, int key) {
        return isKey(key) && present[key] && passes(key, v);
    }

    private boolean editFits(int v, int how, int x, int z) {
        if (how > SUM) {
            return false;
        }
        if (how != ADD && x >= width[v]) {
            return false;
        }
        if ((how == EXCHANGE || how == SUM) && z >= width[v]) {
            return false;
        }
        return how != SUM || x != z;
    }

    private int widening(int how) {
        if (how == ADD) {
            return 1;
        }
        return how == DROP ? -1 : 0;
    }

    private void fillVersion(int made) {
        for (int key = 0; key < KEYS; key++) {
            if (present[key]) {
                followParent(key, made, true);
            }
        }
    }

    private int cellBase(int row, int v) {
        return row * ROW_CELLS + v * MAX_COLUMNS;
    }

    private void copyRow(int from, int to) {
        int source = from * ROW_CELLS;
        int target = to * ROW_CELLS;
        for (int i = 0; i < ROW_CELLS; i++) {
            cells[target + i] = cells[source + i];
        }
    }

    // Whether the row's values meet every ONLY from version v back to version 0.
    private boolean passes(int row, int v) {
        int w = v;
        for (int step = 0; step < MAX_VERSIONS && w > 0; step++) {
            if (kind[w] == ONLY) {
                int base = cellBase(row, w);
                if (cells[base + columnX[w]] < number[w]) {
                    return false;
                }
            }
            w = parent[w];
        }
        return true;
    }

    // Makes the row's values in all versions fit those it has in version v.
    private void spread(int row, int v, boolean useDefault) {
        for (int w = 0; w < MAX_VERSIONS; w++) {
            reached[w] = false;
        }
        reached[v] = true;
        int child = v;
        for (int step = 0; step < MAX_VERSIONS && child > 0; step++) {
            followChild(row, child, useDefault);
            child = parent[child];
            reached[child] = true;
        }
        // A parent has a lower number than its child, so it is done when its child's turn comes.
        for (int w = 1; w < versions; w++) {
            if (!reached[w]) {
                followParent(row, w, useDefault);
            }
        }
    }

    private void followParent(int row, int child, boolean useDefault) {
        int above = cellBase(row, parent[child]);
        int below = cellBase(row, child);
        int common = commonColumns(child);
        for (int c = 0; c < common; c++) {
            int there = columnInParent(child, c);
            cells[below + c] = cells[above + there];
        }
        int x = columnX[child];
        if (kind[child] == SHIFT) {
            cells[below + x] += number[child];
        } else if (kind[child] == SUM) {
            cells[below + x] += cells[below + columnZ[child]];
        } else if (kind[child] == ADD && useDefault) {
            cells[below + common] = number[child];
        }
    }

    private void followChild(int row, int child, boolean useDefault) {
        int above = cellBase(row, parent[child]);
        int below = cellBase(row, child);
        int common = commonColumns(child);
        for (int c = 0; c < common; c++) {
            int there = columnInParent(child, c);
            cells[above + there] = cells[below + c];
        }
        int x = columnX[child];
        if (kind[child] == SHIFT) {
            cells[above + x] -= number[child];
        } else if (kind[child] == SUM) {
            cells[above + x] -= cells[above + columnZ[child]];
        } else if (kind[child] == DROP && useDefault) {
            cells[above + x] = number[child];
        }
    }

    // The columns that are there in both a version and its parent.
    private int commonColumns(int child) {
        return kind[child] == ADD ? width[child] - 1 : width[child];
    }

    // Where the parent has the child's column c.
    private int columnInParent(int child, int c) {
        int x = columnX[child];
        int z = columnZ[child];
        if (kind[child] == DROP) {
            return c < x ? c : c + 1;
        }
        if (kind[child] == EXCHANGE && c == x) {
            return z;
        }
        if (kind[child] == EXCHANGE && c == z) {
            return x;
        }
        return c;
    }
}
