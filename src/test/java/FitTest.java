import java.util.Arrays;

// Every choice of parents and edits for up to four versions (one number y for each edit, no row hidden), a row put
// in and changed through each version: the values, as the table itself tells them, must fit by the edits.
// No value is worked out here, so no way of working them out is shared with the program.
public final class FitTest {
    private static final int EDITS = 3;
    private static final int ROW = 60;
    private static final int OLD_ROW = 3;
    private static final int[] DRAFT = {11, 130, -1700, 19000, 230000};

    private static final int ADD = 0;
    private static final int DROP = 1;
    private static final int SHIFT = 2;
    private static final int ONLY = 3;
    private static final int EXCHANGE = 4;
    private static final int SUM = 5;

    // The edits of the table at hand, by the number of the version that each one makes.
    private static final int[] parent = new int[EDITS + 1];
    private static final int[] kind = new int[EDITS + 1];
    private static final int[] x = new int[EDITS + 1];
    private static final int[] z = new int[EDITS + 1];
    private static final int[] y = new int[EDITS + 1];
    private static final int[] columns = new int[EDITS + 1];

    private static int tables = 0;
    private static int wrong = 0;

    private static void due(boolean holds, int versions, String words) {
        if (!holds) {
            wrong++;
            StringBuilder edits = new StringBuilder();
            for (int v = 1; v < versions; v++) {
                int what = kind[v] + 8 * x[v] + 64 * z[v];
                edits.append(" edit(" + parent[v] + ", " + what + ", " + y[v] + ")");
            }
            System.out.println("after" + edits + ": " + words);
        }
    }

    /** A row's values in all versions; it must be shown in each of them. */
    private static int[][] values(SchemaTwins t, int key, int versions) {
        int[][] values = new int[versions][];
        for (int v = 0; v < versions; v++) {
            values[v] = new int[columns[v]];
            for (int c = 0; c < columns[v]; c++) {
                values[v][c] = t.value(v, key, c);
            }
        }
        return values;
    }

    /** What the text block in 'Terms' says of the version w and its parent. */
    private static boolean fits(int w, int[] above, int[] here) {
        boolean fits = true;
        for (int c = 0; c < here.length; c++) {
            fits &= switch (kind[w]) {
                case ADD -> c == here.length - 1 || here[c] == above[c];
                case DROP -> here[c] == above[c < x[w] ? c : c + 1];
                case SHIFT -> c == x[w] ? here[c] == above[c] + y[w] : here[c] == above[c];
                case ONLY -> here[c] == above[c];
                case EXCHANGE -> here[c] == (c == x[w] ? above[z[w]] : c == z[w] ? above[x[w]] : above[c]);
                default -> c == x[w] ? here[c] == above[c] + above[z[w]] : here[c] == above[c];
            };
        }
        return fits;
    }

    private static void dueFit(int versions, int[][] values, String words) {
        for (int w = 1; w < versions; w++) {
            due(fits(w, values[parent[w]], values[w]), versions, words + ": version " + w + " does not fit its parent, "
                + Arrays.toString(values[w]) + " and " + Arrays.toString(values[parent[w]]));
        }
    }

    private static boolean comesFrom(int v, int w) {
        int at = v;
        while (at > w) {
            at = parent[at];
        }
        return at == w;
    }

    /** Free values that version v does not say get the default, or stay if the row was there (old is not null). */
    private static void dueFree(int versions, int v, int[][] old, int[][] values, String words) {
        for (int w = 1; w < versions; w++) {
            boolean upwards = comesFrom(v, w);
            if (kind[w] == ADD && !upwards) {
                int last = columns[w] - 1;
                int want = old == null ? y[w] : old[w][last];
                due(values[w][last] == want, versions, words + ": the free value of version " + w);
            }
            if (kind[w] == DROP && upwards) {
                int p = parent[w];
                int want = old == null ? y[w] : old[p][x[w]];
                due(values[p][x[w]] == want, versions, words + ": the free value of version " + p);
            }
        }
    }

    /** A table with these versions; its old row was there before them. */
    private static SchemaTwins made(int versions) {
        SchemaTwins t = new SchemaTwins();
        t.draft(0, 5);
        t.draft(1, 70);
        due(t.insert(0, OLD_ROW) == 1, versions, "the old row is put in");
        for (int v = 1; v < versions; v++) {
            int what = kind[v] + 8 * x[v] + 64 * z[v];
            due(t.edit(parent[v], what, y[v]) == v, versions, "the last edit");
            due(t.columns(v) == columns[v], versions, "the columns of version " + v);
        }
        for (int c = 0; c < DRAFT.length; c++) {
            t.draft(c, DRAFT[c]);
        }
        return t;
    }

    private static void dueOldRow(SchemaTwins t, int versions, String words) {
        int[][] values = values(t, OLD_ROW, versions);
        due(Arrays.equals(values[0], new int[] {5, 70}), versions, words + ": the other row in version 0");
        dueFit(versions, values, words + ": the other row");
        dueFree(versions, 0, null, values, words + ": the other row");
    }

    private static void changeThroughAll(SchemaTwins t, int versions, int[][] first) {
        int[][] old = first;
        for (int v = 0; v < versions; v++) {
            for (int c = 0; c < columns[v]; c++) {
                int value = 3_000_000 + 1000 * v + c;
                String words = "update(" + v + ", " + ROW + ", " + c + ", " + value + ")";
                due(t.update(v, ROW, c, value) == 1, versions, words);
                int[][] values = values(t, ROW, versions);
                int[] want = old[v].clone();
                want[c] = value;
                due(Arrays.equals(values[v], want), versions, words + ": the values in the version itself");
                dueFit(versions, values, words);
                dueFree(versions, v, old, values, words);
                old = values;
            }
        }
    }

    private static void tryTable(int versions) {
        tables++;
        for (int v = 0; v < versions; v++) {
            SchemaTwins t = made(versions);
            dueOldRow(t, versions, "a row that was there");
            String words = "insert(" + v + ", " + ROW + ")";
            due(t.insert(v, ROW) == 2, versions, words);
            int[][] values = values(t, ROW, versions);
            due(Arrays.equals(values[v], Arrays.copyOf(DRAFT, columns[v])), versions, words + ": the draft");
            dueFit(versions, values, words);
            dueFree(versions, v, null, values, words);
            changeThroughAll(t, versions, values);
            dueOldRow(t, versions, "all the updates");
        }
    }

    /** Takes the edit for the next version if the document allows it. */
    private static boolean takes(int made, int from, int what) {
        parent[made] = from;
        kind[made] = what % 8;
        x[made] = what / 8 % 8;
        z[made] = what / 64;
        // An ONLY that all ints pass: what it hides is tested elsewhere, and here all values must be seen.
        y[made] = kind[made] == ONLY ? Integer.MIN_VALUE : 40_000_000 * made;
        boolean usesX = kind[made] != ADD;
        boolean usesZ = kind[made] == EXCHANGE || kind[made] == SUM;
        int wide = columns[from];
        columns[made] = kind[made] == ADD ? wide + 1 : kind[made] == DROP ? wide - 1 : wide;
        return kind[made] <= SUM
            && (usesX ? x[made] < wide : x[made] == 0)
            && (usesZ ? z[made] < wide : z[made] == 0)
            && !(kind[made] == SUM && x[made] == z[made])
            && columns[made] >= 1 && columns[made] <= 5;
    }

    private static void tryAll(int versions) {
        tryTable(versions);
        if (versions > EDITS) {
            return;
        }
        for (int from = 0; from < versions; from++) {
            for (int what = 0; what < 512 && wrong == 0; what++) {
                if (takes(versions, from, what)) {
                    tryAll(versions + 1);
                }
            }
        }
    }

    public static void main(String[] args) {
        columns[0] = 2;
        tryAll(1);
        System.out.println(tables + " tables, " + (wrong == 0 ? "all values fit" : wrong + " values do not fit"));
        if (wrong != 0) {
            System.exit(1);
        }
    }
}
