import java.util.ArrayList;
import java.util.List;
import java.util.TreeMap;

// Runs of up to 512 calls, the same ones each time, against a plain model of the document.
public final class ModelTest {
    private static final int RUNS = 6000;
    private static final int CALLS = 512;

    /** A version as the document tells it: its parent and the edit that made it. */
    private record Version(int parent, int kind, int x, int z, int y, int columns) {}

    /** The document over lists and maps; a row is one list of values for each version. */
    private static final class Model {
        final List<Version> versions = new ArrayList<>();
        final TreeMap<Integer, List<int[]>> rows = new TreeMap<>();
        final int[] draft = new int[5];

        Model() {
            versions.add(new Version(-1, -1, 0, 0, 0, 2));
        }

        boolean is(int v) {
            return 0 <= v && v < versions.size();
        }

        boolean is(int v, int c) {
            return is(v) && 0 <= c && c < versions.get(v).columns();
        }

        int edit(int v, int what, int y) {
            if (!is(v) || what < 0 || what > 511) return -1;
            if (versions.size() == 8) return -2;
            int kind = what % 8;
            int x = what / 8 % 8;
            int z = what / 64;
            if (kind > 5) return -1;
            if (kind != 0 && !is(v, x)) return -1;
            if ((kind == 4 || kind == 5) && !is(v, z)) return -1;
            if (kind == 5 && x == z) return -1;
            int columns = versions.get(v).columns();
            if (kind == 0) columns++;
            if (kind == 1) columns--;
            if (columns == 0 || columns == 6) return -2;
            Version made = new Version(v, kind, x, z, y, columns);
            versions.add(made);
            for (List<int[]> row : rows.values()) row.add(down(made, row.get(v), y));
            return versions.size() - 1;
        }

        /** The child's values from the parent's, with this number where the child's is free. */
        static int[] down(Version e, int[] from, int free) {
            List<Integer> to = new ArrayList<>();
            for (int value : from) to.add(value);
            switch (e.kind()) {
                case 0 -> to.add(free);
                case 1 -> to.remove(e.x());
                case 2 -> to.set(e.x(), from[e.x()] + e.y());
                case 4 -> {
                    to.set(e.x(), from[e.z()]);
                    to.set(e.z(), from[e.x()]);
                }
                case 5 -> to.set(e.x(), from[e.x()] + from[e.z()]);
                default -> { }
            }
            return to.stream().mapToInt(Integer::intValue).toArray();
        }

        /** The parent's values from the child's, with this number where the parent's is free. */
        static int[] up(Version e, int[] from, int free) {
            List<Integer> to = new ArrayList<>();
            for (int value : from) to.add(value);
            switch (e.kind()) {
                case 0 -> to.remove(to.size() - 1);
                case 1 -> to.add(e.x(), free);
                case 2 -> to.set(e.x(), from[e.x()] - e.y());
                case 4 -> {
                    to.set(e.x(), from[e.z()]);
                    to.set(e.z(), from[e.x()]);
                }
                case 5 -> to.set(e.x(), from[e.x()] - from[e.z()]);
                default -> { }
            }
            return to.stream().mapToInt(Integer::intValue).toArray();
        }

        /** The row that has these values in version v; old is the row as it was, null if it is new. */
        List<int[]> follow(int v, int[] values, List<int[]> old) {
            List<int[]> row = new ArrayList<>();
            for (int w = 0; w < versions.size(); w++) row.add(null);
            row.set(v, values);
            walk(v, -1, row, old);
            return row;
        }

        private void walk(int v, int cameFrom, List<int[]> row, List<int[]> old) {
            for (int w = 0; w < versions.size(); w++) {
                if (w == cameFrom) continue;
                if (versions.get(w).parent() == v) {
                    Version e = versions.get(w);
                    int free = old == null || e.kind() != 0 ? e.y() : old.get(w)[e.columns() - 1];
                    row.set(w, down(e, row.get(v), free));
                    walk(w, v, row, old);
                } else if (versions.get(v).parent() == w) {
                    Version e = versions.get(v);
                    int free = old == null || e.kind() != 1 ? e.y() : old.get(w)[e.x()];
                    row.set(w, up(e, row.get(v), free));
                    walk(w, v, row, old);
                }
            }
        }

        boolean shows(List<int[]> row, int v) {
            for (int w = v; w != -1; w = versions.get(w).parent()) {
                Version e = versions.get(w);
                if (e.kind() == 3 && row.get(w)[e.x()] < e.y()) return false;
            }
            return true;
        }

        int retract() {
            if (versions.size() == 1) return -1;
            int last = versions.size() - 1;
            versions.remove(last);
            for (List<int[]> row : rows.values()) row.remove(last);
            return last;
        }

        int columns(int v) {
            return is(v) ? versions.get(v).columns() : -1;
        }

        boolean draft(int c, int value) {
            if (c < 0 || c > 4) return false;
            draft[c] = value;
            return true;
        }

        int insert(int v, int key) {
            if (!is(v) || key < 0 || key > 99) return -1;
            if (rows.containsKey(key)) return -3;
            if (rows.size() == 12) return -2;
            int[] values = java.util.Arrays.copyOf(draft, columns(v));
            List<int[]> row = follow(v, values, null);
            if (!shows(row, v)) return -4;
            rows.put(key, row);
            return rows.size();
        }

        int update(int v, int key, int c, int value) {
            if (!is(v, c) || key < 0 || key > 99) return -1;
            if (!shown(v, key)) return -5;
            int[] values = rows.get(key).get(v).clone();
            values[c] = value;
            List<int[]> row = follow(v, values, rows.get(key));
            if (!shows(row, v)) return -4;
            rows.put(key, row);
            return 1;
        }

        int delete(int v, int key) {
            if (!is(v) || key < 0 || key > 99) return -1;
            if (!shown(v, key)) return -5;
            rows.remove(key);
            return rows.size();
        }

        boolean shown(int v, int key) {
            return is(v) && rows.containsKey(key) && shows(rows.get(key), v);
        }

        int value(int v, int key, int c) {
            return is(v, c) && shown(v, key) ? rows.get(key).get(v)[c] : 0;
        }

        private List<Integer> keys(int v) {
            return rows.keySet().stream().filter(key -> shown(v, key)).toList();
        }

        int count(int v) {
            return is(v) ? keys(v).size() : -1;
        }

        int sum(int v, int c) {
            return is(v, c) ? keys(v).stream().mapToInt(key -> value(v, key, c)).sum() : 0;
        }

        int key(int v, int k) {
            if (!is(v)) return -1;
            List<Integer> keys = keys(v);
            return 0 <= k && k < keys.size() ? keys.get(k) : -5;
        }
    }

    /** A row of numbers that is the same on every machine. */
    private static final class Numbers {
        private long state;

        Numbers(long seed) {
            state = seed * 0x9E3779B97F4A7C15L + 1;
        }

        int below(int bound) {
            state = state * 6364136223846793005L + 1442695040888963407L;
            return (int) ((state >>> 33) % bound);
        }

        /** Most often a number from 0 up, now and then one outside. */
        int near(int bound) {
            int odd = below(60);
            if (odd == 0) return -1;
            if (odd == 1) return bound;
            if (odd == 2) return below(2) == 0 ? Integer.MIN_VALUE : Integer.MAX_VALUE;
            return below(bound);
        }

        int value() {
            int odd = below(20);
            if (odd == 0) return Integer.MAX_VALUE - below(3);
            if (odd == 1) return Integer.MIN_VALUE + below(3);
            return below(21) - 10;
        }
    }

    private static int wrong = 0;

    private static void due(int run, String call, int got, int want) {
        if (got != want) {
            wrong++;
            System.out.println("run " + run + ": " + call + " answered " + got + ", due is " + want);
        }
    }

    private static int bit(boolean b) {
        return b ? 1 : 0;
    }

    private static int anEdit(Numbers n) {
        int odd = n.below(12);
        if (odd == 0) return n.below(514) - 1;
        return n.below(6) + 8 * n.below(4) + 64 * n.below(4);
    }

    /** A call that changes something, if it is not refused. */
    private static void change(int run, SchemaTwins t, Model m, Numbers n, int keys) {
        int v = n.near(m.versions.size());
        int key = keys < 100 && n.below(60) > 0 ? 7 * n.below(keys) : n.near(100);
        int number = n.value();
        int pick = n.below(40);
        if (pick < 5) {
            int what = anEdit(n);
            due(run, "edit(" + v + ", " + what + ", " + number + ")", t.edit(v, what, number), m.edit(v, what, number));
        } else if (pick < 7) {
            due(run, "retract()", t.retract(), m.retract());
        } else if (pick < 14) {
            int c = n.near(5);
            due(run, "draft(" + c + ", " + number + ")", bit(t.draft(c, number)), bit(m.draft(c, number)));
        } else if (pick < 22) {
            due(run, "insert(" + v + ", " + key + ")", t.insert(v, key), m.insert(v, key));
        } else if (pick < 35) {
            int c = m.is(v) ? n.near(m.columns(v)) : 0;
            String call = "update(" + v + ", " + key + ", " + c + ", " + number + ")";
            due(run, call, t.update(v, key, c, number), m.update(v, key, c, number));
        } else if (pick < 38) {
            due(run, "delete(" + v + ", " + key + ")", t.delete(v, key), m.delete(v, key));
        } else {
            due(run, "home(" + v + ")", bit(t.home(v)), bit(m.is(v)));
        }
    }

    /** A call that only asks. */
    private static void ask(int run, SchemaTwins t, Model m, Numbers n, int keys) {
        int v = n.near(m.versions.size());
        int key = keys < 100 ? 7 * n.below(keys) : n.near(100);
        int c = m.is(v) ? n.near(m.columns(v)) : 0;
        switch (n.below(7)) {
            case 0 -> due(run, "columns(" + v + ")", t.columns(v), m.columns(v));
            case 1 -> due(run, "shown(" + v + ", " + key + ")", bit(t.shown(v, key)), bit(m.shown(v, key)));
            case 2 -> due(run, "count(" + v + ")", t.count(v), m.count(v));
            case 3 -> due(run, "sum(" + v + ", " + c + ")", t.sum(v, c), m.sum(v, c));
            case 4 -> {
                int k = n.near(12);
                due(run, "key(" + v + ", " + k + ")", t.key(v, k), m.key(v, k));
            }
            default -> due(run, "value(" + v + ", " + key + ", " + c + ")", t.value(v, key, c), m.value(v, key, c));
        }
    }

    public static void main(String[] args) {
        for (int run = 0; run < RUNS && wrong == 0; run++) {
            SchemaTwins t = new SchemaTwins();
            Model m = new Model();
            Numbers n = new Numbers(run);
            // Few keys meet the same row often, many meet the limit of 12 rows.
            int keys = run % 3 == 0 ? 4 : run % 3 == 1 ? 14 : 100;
            for (int call = 0; call < CALLS && wrong == 0; call++) {
                if (n.below(2) == 0) {
                    change(run, t, m, n, keys);
                } else {
                    ask(run, t, m, n, keys);
                }
            }
        }
        System.out.println(wrong == 0 ? "all answers are the model's" : "an answer is not the model's");
        if (wrong != 0) {
            System.exit(1);
        }
    }
}
