// Each promise of the document on ordinary inputs, on its edges and on wrong inputs.
public final class PromisesTest {
    private static final int BAD = SchemaTwins.BAD;
    private static final int FULL = SchemaTwins.FULL;
    private static final int THERE = SchemaTwins.THERE;
    private static final int HIDDEN = SchemaTwins.HIDDEN;
    private static final int NONE = SchemaTwins.NONE;

    private static final int ADD = 0;
    private static final int DROP = 1;
    private static final int SHIFT = 2;
    private static final int ONLY = 3;
    private static final int EXCHANGE = 4;
    private static final int SUM = 5;

    private static final int[] FAR = {Integer.MIN_VALUE, -1000, -1, 8, 1000, Integer.MAX_VALUE};

    private static int wrong = 0;
    private static String promise = "";

    private static void due(String call, long got, long want) {
        if (got != want) {
            wrong++;
            System.out.println(promise + ": " + call + " answered " + got + ", due is " + want);
        }
    }

    private static void due(String call, boolean got, boolean want) {
        due(call, got ? 1 : 0, want ? 1 : 0);
    }

    private static int what(int kind, int x, int z) {
        return kind + 8 * x + 64 * z;
    }

    private static void draft(SchemaTwins t, int... values) {
        for (int c = 0; c < values.length; c++) {
            due("draft(" + c + ")", t.draft(c, values[c]), true);
        }
    }

    /** The row is shown in the version and has exactly these values there. */
    private static void dueRow(SchemaTwins t, int v, int key, int... values) {
        due("columns(" + v + ")", t.columns(v), values.length);
        due("shown(" + v + ", " + key + ")", t.shown(v, key), true);
        for (int c = 0; c < values.length; c++) {
            due("value(" + v + ", " + key + ", " + c + ")", t.value(v, key, c), values[c]);
        }
    }

    /** A table with one row, key 10, that has these values in version 0. */
    private static SchemaTwins oneRow(int first, int second) {
        SchemaTwins t = new SchemaTwins();
        draft(t, first, second);
        due("insert(0, 10)", t.insert(0, 10), 1);
        return t;
    }

    private static void newObject() {
        promise = "promise 1";
        SchemaTwins t = new SchemaTwins();
        due("columns(0)", t.columns(0), 2);
        due("columns(1)", t.columns(1), BAD);
        due("count(0)", t.count(0), 0);
        due("key(0, 0)", t.key(0, 0), NONE);
        due("sum(0, 0)", t.sum(0, 0), 0);
        for (int key = 0; key < 100; key++) {
            due("shown(0, " + key + ")", t.shown(0, key), false);
        }
        for (int v = 1; v <= 3; v++) {
            due("edit ADD", t.edit(v - 1, ADD, 9), v);
        }
        due("insert(3, 0)", t.insert(3, 0), 1);
        dueRow(t, 3, 0, 0, 0, 0, 0, 0);
        SchemaTwins other = new SchemaTwins();
        due("another object: columns(1)", other.columns(1), BAD);
        due("another object: count(0)", other.count(0), 0);
    }

    private static void editValues() {
        promise = "promise 2, values";
        SchemaTwins t = oneRow(3, 4);
        due("ADD", t.edit(0, ADD, 7), 1);
        dueRow(t, 1, 10, 3, 4, 7);
        due("DROP 0", t.edit(1, what(DROP, 0, 0), 99), 2);
        dueRow(t, 2, 10, 4, 7);
        dueRow(t, 1, 10, 3, 4, 7);
        due("SHIFT 2", t.edit(1, what(SHIFT, 2, 0), -10), 3);
        dueRow(t, 3, 10, 3, 4, -3);
        due("EXCHANGE 0 2", t.edit(1, what(EXCHANGE, 0, 2), 5), 4);
        dueRow(t, 4, 10, 7, 4, 3);
        due("SUM 1 2", t.edit(1, what(SUM, 1, 2), 5), 5);
        dueRow(t, 5, 10, 3, 11, 7);
        due("EXCHANGE 1 1", t.edit(1, what(EXCHANGE, 1, 1), 5), 6);
        dueRow(t, 6, 10, 3, 4, 7);
        due("DROP 2", t.edit(1, what(DROP, 2, 0), 99), 7);
        dueRow(t, 7, 10, 3, 4);
        SchemaTwins mid = oneRow(3, 4);
        due("ADD", mid.edit(0, ADD, 7), 1);
        due("DROP 1", mid.edit(1, what(DROP, 1, 0), 99), 2);
        dueRow(mid, 2, 10, 3, 7);
        SchemaTwins wrap = oneRow(Integer.MAX_VALUE, Integer.MIN_VALUE);
        due("SHIFT 0 wraps", wrap.edit(0, what(SHIFT, 0, 0), 1), 1);
        dueRow(wrap, 1, 10, Integer.MIN_VALUE, Integer.MIN_VALUE);
        due("SUM 0 1 wraps", wrap.edit(1, what(SUM, 0, 1), 0), 2);
        dueRow(wrap, 2, 10, 0, Integer.MIN_VALUE);
    }

    private static void editAllRows() {
        promise = "promise 2, all rows";
        SchemaTwins t = fourRows();
        due("ADD", t.edit(0, ADD, 6), 4);
        due("SHIFT 2", t.edit(4, what(SHIFT, 2, 0), 1), 5);
        int[] keys = {0, 7, 40, 99};
        for (int i = 0; i < keys.length; i++) {
            dueRow(t, 4, keys[i], 10 * i + 10, keys[i], 6);
            dueRow(t, 5, keys[i], 10 * i + 10, keys[i], 7);
        }
    }

    private static void editHiddenRows() {
        promise = "promise 2, rows that are not shown";
        SchemaTwins t = oneRow(3, 4);
        due("ONLY 0 >= 4", t.edit(0, what(ONLY, 0, 0), 4), 1);
        due("ADD", t.edit(1, ADD, 6), 2);
        due("SHIFT 2", t.edit(2, what(SHIFT, 2, 0), 1), 3);
        due("shown(3, 10)", t.shown(3, 10), false);
        due("update(0, 10, 0, 4)", t.update(0, 10, 0, 4), 1);
        dueRow(t, 1, 10, 4, 4);
        dueRow(t, 2, 10, 4, 4, 6);
        dueRow(t, 3, 10, 4, 4, 7);
    }

    private static void editRefusals() {
        promise = "promise 2, refusals";
        SchemaTwins t = oneRow(3, 4);
        for (int v : FAR) {
            due("edit(" + v + ", ADD)", t.edit(v, ADD, 0), BAD);
        }
        due("edit(1, ADD)", t.edit(1, ADD, 0), BAD);
        due("what -1", t.edit(0, -1, 0), BAD);
        due("what -8", t.edit(0, -8, 0), BAD);
        due("what 512", t.edit(0, 512, 0), BAD);
        due("what min", t.edit(0, Integer.MIN_VALUE, 0), BAD);
        due("what max", t.edit(0, Integer.MAX_VALUE, 0), BAD);
        due("kind 6", t.edit(0, 6, 0), BAD);
        due("kind 7", t.edit(0, 7, 0), BAD);
        for (int kind = DROP; kind <= SUM; kind++) {
            due("kind " + kind + ", x 2", t.edit(0, what(kind, 2, 0), 0), BAD);
            due("kind " + kind + ", x 7", t.edit(0, what(kind, 7, 1), 0), BAD);
        }
        due("EXCHANGE z 2", t.edit(0, what(EXCHANGE, 0, 2), 0), BAD);
        due("EXCHANGE z 7", t.edit(0, what(EXCHANGE, 0, 7), 0), BAD);
        due("SUM z 2", t.edit(0, what(SUM, 0, 2), 0), BAD);
        due("SUM x = z", t.edit(0, what(SUM, 1, 1), 0), BAD);
        due("columns(1)", t.columns(1), BAD);
        dueRow(t, 0, 10, 3, 4);
        due("ADD, x and z 7", t.edit(0, what(ADD, 7, 7), 5), 1);
        dueRow(t, 1, 10, 3, 4, 5);
        due("DROP, z 7", t.edit(0, what(DROP, 1, 7), 0), 2);
        due("SHIFT, z 7", t.edit(0, what(SHIFT, 1, 7), 0), 3);
        due("ONLY, z 7", t.edit(0, what(ONLY, 1, 7), 0), 4);
        due("no column left", t.edit(2, what(DROP, 0, 0), 0), FULL);
        due("x no column before no column left", t.edit(2, what(DROP, 1, 0), 0), BAD);
        due("columns(5)", t.columns(5), BAD);
    }

    private static void editLimits() {
        promise = "promise 2, limits";
        SchemaTwins t = new SchemaTwins();
        for (int v = 1; v <= 3; v++) {
            due("ADD", t.edit(v - 1, ADD, 0), v);
        }
        due("columns(3)", t.columns(3), 5);
        due("a sixth column", t.edit(3, ADD, 0), FULL);
        due("columns(4)", t.columns(4), BAD);
        for (int v = 4; v <= 7; v++) {
            due("SHIFT 4", t.edit(3, what(SHIFT, 4, 0), 1), v);
        }
        due("a ninth version", t.edit(0, ADD, 0), FULL);
        due("FULL before kind", t.edit(0, 6, 0), FULL);
        due("FULL before x", t.edit(0, what(SHIFT, 2, 0), 0), FULL);
        due("v before FULL", t.edit(8, ADD, 0), BAD);
        due("what before FULL", t.edit(0, 512, 0), BAD);
        due("what below 0 before FULL", t.edit(0, -1, 0), BAD);
        due("FULL at the greatest what", t.edit(0, 511, 0), FULL);
        due("columns(7)", t.columns(7), 5);
        due("columns(8)", t.columns(8), BAD);
    }

    private static void retract() {
        promise = "promise 3";
        SchemaTwins t = oneRow(3, 4);
        due("retract()", t.retract(), BAD);
        due("ADD", t.edit(0, ADD, 7), 1);
        due("ONLY 0 >= 9", t.edit(0, what(ONLY, 0, 0), 9), 2);
        due("update(1, 10, 2, 70)", t.update(1, 10, 2, 70), 1);
        due("retract()", t.retract(), 2);
        due("columns(2)", t.columns(2), BAD);
        due("count(2)", t.count(2), BAD);
        dueRow(t, 1, 10, 3, 4, 70);
        due("retract()", t.retract(), 1);
        due("retract()", t.retract(), BAD);
        dueRow(t, 0, 10, 3, 4);
        due("ADD again", t.edit(0, ADD, 8), 1);
        dueRow(t, 1, 10, 3, 4, 8);
        for (int v = 2; v <= 7; v++) {
            due("SHIFT", t.edit(0, what(SHIFT, 0, 0), v), v);
        }
        due("edit when 8 are there", t.edit(0, ADD, 0), FULL);
        due("retract()", t.retract(), 7);
        due("DROP 0", t.edit(0, what(DROP, 0, 0), 1), 7);
        dueRow(t, 7, 10, 4);
    }

    private static void columns() {
        promise = "promise 4";
        SchemaTwins t = new SchemaTwins();
        int[] kinds = {what(ADD, 0, 0), what(DROP, 0, 0), what(SHIFT, 0, 0), what(ONLY, 0, 0),
            what(EXCHANGE, 0, 1), what(SUM, 0, 1)};
        int[] widths = {3, 1, 2, 2, 2, 2};
        for (int i = 0; i < kinds.length; i++) {
            due("edit", t.edit(0, kinds[i], 0), i + 1);
            due("columns(" + (i + 1) + ")", t.columns(i + 1), widths[i]);
        }
        due("columns(0)", t.columns(0), 2);
        due("columns(7)", t.columns(7), BAD);
        for (int v : FAR) {
            due("columns(" + v + ")", t.columns(v), BAD);
        }
    }

    private static void draftColumns() {
        promise = "promise 5";
        SchemaTwins t = new SchemaTwins();
        for (int v = 1; v <= 3; v++) {
            due("ADD", t.edit(v - 1, ADD, 0), v);
        }
        draft(t, 11, 12, 13, 14, 15);
        for (int c : new int[] {Integer.MIN_VALUE, -1, 5, 6, Integer.MAX_VALUE}) {
            due("draft(" + c + ", 99)", t.draft(c, 99), false);
        }
        due("insert(3, 1)", t.insert(3, 1), 1);
        dueRow(t, 3, 1, 11, 12, 13, 14, 15);
        due("draft(2, -5)", t.draft(2, -5), true);
        dueRow(t, 3, 1, 11, 12, 13, 14, 15);
        due("insert(3, 2)", t.insert(3, 2), 2);
        dueRow(t, 3, 2, 11, 12, -5, 14, 15);
        due("insert(0, 3)", t.insert(0, 3), 3);
        dueRow(t, 3, 3, 11, 12, 0, 0, 0);
    }

    private static void insertSpreads() {
        promise = "promise 6, the other versions";
        SchemaTwins t = new SchemaTwins();
        due("DROP 0", t.edit(0, what(DROP, 0, 0), 50), 1);
        due("ADD", t.edit(1, ADD, 60), 2);
        due("SUM 0 1", t.edit(2, what(SUM, 0, 1), 0), 3);
        due("SHIFT 0", t.edit(0, what(SHIFT, 0, 0), 5), 4);
        due("EXCHANGE 0 1", t.edit(4, what(EXCHANGE, 0, 1), 0), 5);
        due("ADD", t.edit(5, ADD, 70), 6);
        draft(t, 10, 4);
        due("insert(3, 1)", t.insert(3, 1), 1);
        dueRow(t, 3, 1, 10, 4);
        dueRow(t, 2, 1, 6, 4);
        dueRow(t, 1, 1, 6);
        dueRow(t, 0, 1, 50, 6);
        dueRow(t, 4, 1, 55, 6);
        dueRow(t, 5, 1, 6, 55);
        dueRow(t, 6, 1, 6, 55, 70);
        draft(t, 1, 2, 3);
        due("insert(6, 0)", t.insert(6, 0), 2);
        dueRow(t, 6, 0, 1, 2, 3);
        dueRow(t, 5, 0, 1, 2);
        dueRow(t, 4, 0, 2, 1);
        dueRow(t, 0, 0, -3, 1);
        dueRow(t, 1, 0, 1);
        dueRow(t, 2, 0, 1, 60);
        dueRow(t, 3, 0, 61, 60);
    }

    private static void insertRefusals() {
        promise = "promise 6, refusals";
        SchemaTwins t = new SchemaTwins();
        due("ONLY 1 >= 5", t.edit(0, what(ONLY, 1, 0), 5), 1);
        due("DROP 1", t.edit(1, what(DROP, 1, 0), 4), 2);
        due("DROP 1", t.edit(1, what(DROP, 1, 0), 5), 3);
        draft(t, 1, 4);
        for (int v : FAR) {
            due("insert(" + v + ", 1)", t.insert(v, 1), BAD);
        }
        due("insert(4, 1)", t.insert(4, 1), BAD);
        for (int key : new int[] {Integer.MIN_VALUE, -1, 100, Integer.MAX_VALUE}) {
            due("insert(0, " + key + ")", t.insert(0, key), BAD);
        }
        due("insert(1, 1)", t.insert(1, 1), HIDDEN);
        due("default 4 is below 5", t.insert(2, 1), HIDDEN);
        due("count(0)", t.count(0), 0);
        due("default 5 is not", t.insert(3, 99), 1);
        due("shown in 2 by version 3's default", t.shown(2, 99), true);
        due("insert(1, 99): THERE before HIDDEN", t.insert(1, 99), THERE);
        due("insert(4, 99): BAD before THERE", t.insert(4, 99), BAD);
        for (int key = 0; key < 11; key++) {
            due("insert(0, " + key + ")", t.insert(0, key), key + 2);
        }
        due("a thirteenth row", t.insert(0, 50), FULL);
        due("FULL before HIDDEN", t.insert(1, 50), FULL);
        due("THERE before FULL", t.insert(0, 10), THERE);
        due("BAD before FULL", t.insert(0, 100), BAD);
        due("count(0)", t.count(0), 12);
        due("count(1)", t.count(1), 1);
        due("delete(0, 10)", t.delete(0, 10), 11);
        due("HIDDEN when there is room", t.insert(1, 50), HIDDEN);
        due("insert(0, 50)", t.insert(0, 50), 12);
    }

    private static void insertAgain() {
        promise = "promise 6, a key that was there before";
        SchemaTwins t = oneRow(1, 2);
        due("ADD", t.edit(0, ADD, 3), 1);
        due("DROP 0", t.edit(0, what(DROP, 0, 0), 4), 2);
        due("update(1, 10, 2, 30)", t.update(1, 10, 2, 30), 1);
        due("delete(0, 10)", t.delete(0, 10), 0);
        due("insert(0, 10)", t.insert(0, 10), 1);
        dueRow(t, 1, 10, 1, 2, 3);
        due("delete(0, 10)", t.delete(0, 10), 0);
        due("insert(2, 10)", t.insert(2, 10), 1);
        dueRow(t, 0, 10, 4, 1);
    }

    private static void updateSpreads() {
        promise = "promise 7, the other versions";
        SchemaTwins t = new SchemaTwins();
        due("ADD", t.edit(0, ADD, 7), 1);
        due("SUM 0 2", t.edit(1, what(SUM, 0, 2), 0), 2);
        due("DROP 1", t.edit(0, what(DROP, 1, 0), 8), 3);
        due("SHIFT 0", t.edit(3, what(SHIFT, 0, 0), 100), 4);
        due("EXCHANGE 0 1", t.edit(0, what(EXCHANGE, 0, 1), 0), 5);
        draft(t, 1, 2);
        due("insert(0, 1)", t.insert(0, 1), 1);
        due("insert(0, 2)", t.insert(0, 2), 2);
        due("update(1, 1, 2, 20)", t.update(1, 1, 2, 20), 1);
        dueRow(t, 2, 1, 21, 2, 20);
        due("update(4, 1, 0, 90)", t.update(4, 1, 0, 90), 1);
        dueRow(t, 4, 1, 90);
        dueRow(t, 3, 1, -10);
        dueRow(t, 0, 1, -10, 2);
        dueRow(t, 1, 1, -10, 2, 20);
        dueRow(t, 2, 1, 10, 2, 20);
        dueRow(t, 5, 1, 2, -10);
        due("update(5, 1, 0, 6)", t.update(5, 1, 0, 6), 1);
        dueRow(t, 5, 1, 6, -10);
        dueRow(t, 0, 1, -10, 6);
        dueRow(t, 3, 1, -10);
        due("update(2, 1, 2, 21)", t.update(2, 1, 2, 21), 1);
        dueRow(t, 2, 1, 10, 6, 21);
        dueRow(t, 1, 1, -11, 6, 21);
        dueRow(t, 0, 1, -11, 6);
        dueRow(t, 4, 1, 89);
        dueRow(t, 0, 2, 1, 2);
        dueRow(t, 1, 2, 1, 2, 7);
    }

    /** Three columns are added, then one of the five is dropped, and so on to the eighth version. */
    private static SchemaTwins longChain() {
        SchemaTwins t = new SchemaTwins();
        due("ADD", t.edit(0, ADD, 1), 1);
        due("ADD", t.edit(1, ADD, 2), 2);
        due("ADD", t.edit(2, ADD, 3), 3);
        due("DROP 4", t.edit(3, what(DROP, 4, 0), 4), 4);
        due("SUM 3 0", t.edit(4, what(SUM, 3, 0), 0), 5);
        due("EXCHANGE 0 3", t.edit(5, what(EXCHANGE, 0, 3), 0), 6);
        due("SHIFT 0", t.edit(6, what(SHIFT, 0, 0), 1000), 7);
        return t;
    }

    private static void updateLongChain() {
        promise = "promise 7, eight versions in a row";
        SchemaTwins t = longChain();
        draft(t, 5000, 20, 30, 40);
        due("insert(7, 1)", t.insert(7, 1), 1);
        dueRow(t, 6, 1, 4000, 20, 30, 40);
        dueRow(t, 5, 1, 40, 20, 30, 4000);
        dueRow(t, 4, 1, 40, 20, 30, 3960);
        dueRow(t, 3, 1, 40, 20, 30, 3960, 4);
        dueRow(t, 0, 1, 40, 20);
        due("update(3, 1, 4, 77)", t.update(3, 1, 4, 77), 1);
        due("update(7, 1, 3, 50)", t.update(7, 1, 3, 50), 1);
        dueRow(t, 7, 1, 5000, 20, 30, 50);
        dueRow(t, 6, 1, 4000, 20, 30, 50);
        dueRow(t, 5, 1, 50, 20, 30, 4000);
        dueRow(t, 4, 1, 50, 20, 30, 3950);
        dueRow(t, 3, 1, 50, 20, 30, 3950, 77);
        dueRow(t, 2, 1, 50, 20, 30, 3950);
        dueRow(t, 1, 1, 50, 20, 30);
        dueRow(t, 0, 1, 50, 20);
        due("update(0, 1, 0, 60)", t.update(0, 1, 0, 60), 1);
        dueRow(t, 3, 1, 60, 20, 30, 3950, 77);
        dueRow(t, 7, 1, 5010, 20, 30, 60);
    }

    private static void updateRefusals() {
        promise = "promise 7, refusals";
        SchemaTwins t = oneRow(5, 6);
        due("ONLY 0 >= 5", t.edit(0, what(ONLY, 0, 0), 5), 1);
        due("SUM 0 1", t.edit(1, what(SUM, 0, 1), 0), 2);
        for (int v : FAR) {
            due("update(" + v + ", 10, 0, 9)", t.update(v, 10, 0, 9), BAD);
        }
        for (int key : new int[] {Integer.MIN_VALUE, -1, 100, Integer.MAX_VALUE}) {
            due("update(0, " + key + ", 0, 9)", t.update(0, key, 0, 9), BAD);
        }
        for (int c : new int[] {Integer.MIN_VALUE, -1, 2, 5, Integer.MAX_VALUE}) {
            due("update(0, 10, " + c + ", 9)", t.update(0, 10, c, 9), BAD);
            due("update(0, 11, " + c + ", 9): BAD before NONE", t.update(0, 11, c, 9), BAD);
        }
        due("no such row", t.update(0, 11, 0, 9), NONE);
        due("update(1, 10, 0, 4)", t.update(1, 10, 0, 4), HIDDEN);
        dueRow(t, 1, 10, 5, 6);
        due("hidden by its parent: 11 - 7 < 5", t.update(2, 10, 1, 7), HIDDEN);
        dueRow(t, 2, 10, 11, 6);
        dueRow(t, 0, 10, 5, 6);
        due("update(2, 10, 1, -4)", t.update(2, 10, 1, -4), 1);
        dueRow(t, 0, 10, 15, -4);
        due("another version may hide it", t.update(0, 10, 0, 4), 1);
        due("shown(1, 10)", t.shown(1, 10), false);
        due("not shown in 1", t.update(1, 10, 0, 9), NONE);
        due("not shown in 2", t.update(2, 10, 0, 9), NONE);
        due("back again", t.update(0, 10, 0, 5), 1);
        dueRow(t, 2, 10, 1, -4);
    }

    private static void delete() {
        promise = "promise 8";
        SchemaTwins t = oneRow(5, 6);
        due("ONLY 0 >= 5", t.edit(0, what(ONLY, 0, 0), 5), 1);
        due("draft(0, 4)", t.draft(0, 4), true);
        due("insert(0, 0)", t.insert(0, 0), 2);
        due("insert(0, 99)", t.insert(0, 99), 3);
        for (int v : FAR) {
            due("delete(" + v + ", 10)", t.delete(v, 10), BAD);
        }
        due("delete(2, 10)", t.delete(2, 10), BAD);
        for (int key : new int[] {Integer.MIN_VALUE, -1, 100, Integer.MAX_VALUE}) {
            due("delete(0, " + key + ")", t.delete(0, key), BAD);
        }
        due("no such row", t.delete(0, 11), NONE);
        due("not shown in 1", t.delete(1, 0), NONE);
        due("count(0)", t.count(0), 3);
        due("delete(1, 10)", t.delete(1, 10), 2);
        due("shown(0, 10)", t.shown(0, 10), false);
        due("shown(1, 10)", t.shown(1, 10), false);
        due("delete(0, 10)", t.delete(0, 10), NONE);
        due("delete(0, 99)", t.delete(0, 99), 1);
        due("delete(0, 0)", t.delete(0, 0), 0);
        due("count(0)", t.count(0), 0);
    }

    private static void shown() {
        promise = "promise 9";
        SchemaTwins t = oneRow(5, 6);
        due("ONLY 0 >= 5", t.edit(0, what(ONLY, 0, 0), 5), 1);
        due("SHIFT 0", t.edit(1, what(SHIFT, 0, 0), -100), 2);
        due("ONLY 1 >= 7", t.edit(2, what(ONLY, 1, 0), 7), 3);
        due("SHIFT 1", t.edit(3, what(SHIFT, 1, 0), 100), 4);
        due("ONLY 1 >= 6", t.edit(2, what(ONLY, 1, 0), 6), 5);
        boolean[] want = {true, true, true, false, false, true};
        for (int v = 0; v < want.length; v++) {
            due("shown(" + v + ", 10)", t.shown(v, 10), want[v]);
            due("shown(" + v + ", 11)", t.shown(v, 11), false);
        }
        due("update(0, 10, 0, 4)", t.update(0, 10, 0, 4), 1);
        for (int v = 0; v < want.length; v++) {
            due("shown(" + v + ", 10)", t.shown(v, 10), v == 0);
        }
        due("shown(6, 10)", t.shown(6, 10), false);
        for (int far : FAR) {
            due("shown(" + far + ", 10)", t.shown(far, 10), false);
        }
        for (int key : new int[] {Integer.MIN_VALUE, -1, 100, Integer.MAX_VALUE}) {
            due("shown(0, " + key + ")", t.shown(0, key), false);
        }
    }

    private static void onlyAtTheEndsOfInt() {
        promise = "promise 9, the ends of int";
        SchemaTwins t = oneRow(Integer.MIN_VALUE, Integer.MAX_VALUE);
        due("ONLY 0 >= min", t.edit(0, what(ONLY, 0, 0), Integer.MIN_VALUE), 1);
        due("ONLY 0 >= max", t.edit(0, what(ONLY, 0, 0), Integer.MAX_VALUE), 2);
        due("ONLY 1 >= min", t.edit(0, what(ONLY, 1, 0), Integer.MIN_VALUE), 3);
        due("ONLY 1 >= max", t.edit(0, what(ONLY, 1, 0), Integer.MAX_VALUE), 4);
        boolean[] want = {true, true, false, true, true};
        for (int v = 0; v < want.length; v++) {
            due("shown(" + v + ", 10)", t.shown(v, 10), want[v]);
        }
    }

    private static void value() {
        promise = "promise 10";
        SchemaTwins t = oneRow(5, 6);
        due("ONLY 0 >= 6", t.edit(0, what(ONLY, 0, 0), 6), 1);
        due("value(0, 10, 0)", t.value(0, 10, 0), 5);
        due("value(0, 10, 1)", t.value(0, 10, 1), 6);
        due("not shown in 1", t.value(1, 10, 1), 0);
        due("no such row", t.value(0, 11, 0), 0);
        due("no version 2", t.value(2, 10, 0), 0);
        for (int far : FAR) {
            due("value(" + far + ", 10, 0)", t.value(far, 10, 0), 0);
            due("value(0, 10, " + far + ")", t.value(0, 10, far), 0);
        }
        due("value(0, 10, 2)", t.value(0, 10, 2), 0);
        for (int key : new int[] {Integer.MIN_VALUE, -1, 100, Integer.MAX_VALUE}) {
            due("value(0, " + key + ", 0)", t.value(0, key, 0), 0);
        }
        due("ADD", t.edit(0, ADD, 44), 2);
        due("value(0, 10, 5)", t.value(0, 10, 5), 0);
        due("retract()", t.retract(), 2);
        due("a version that was taken away", t.value(2, 10, 2), 0);
    }

    /** Rows 0, 7, 40 and 99 with 10, 20, 30 and 40 in column 0, the row's key in column 1. */
    private static SchemaTwins fourRows() {
        SchemaTwins t = new SchemaTwins();
        int[] keys = {40, 0, 99, 7};
        int[] firsts = {30, 10, 40, 20};
        for (int i = 0; i < keys.length; i++) {
            draft(t, firsts[i], keys[i]);
            due("insert(0, " + keys[i] + ")", t.insert(0, keys[i]), i + 1);
        }
        due("ONLY 0 >= 20", t.edit(0, what(ONLY, 0, 0), 20), 1);
        due("ONLY 1 >= 50", t.edit(1, what(ONLY, 1, 0), 50), 2);
        due("ONLY 0 >= 41", t.edit(0, what(ONLY, 0, 0), 41), 3);
        return t;
    }

    private static void count() {
        promise = "promise 11";
        SchemaTwins t = fourRows();
        int[] want = {4, 3, 1, 0, BAD};
        for (int v = 0; v < want.length; v++) {
            due("count(" + v + ")", t.count(v), want[v]);
        }
        for (int far : FAR) {
            due("count(" + far + ")", t.count(far), BAD);
        }
    }

    private static void sum() {
        promise = "promise 12";
        SchemaTwins t = fourRows();
        int[] firsts = {100, 90, 40, 0, 0};
        int[] seconds = {146, 146, 99, 0, 0};
        for (int v = 0; v < firsts.length; v++) {
            due("sum(" + v + ", 0)", t.sum(v, 0), firsts[v]);
            due("sum(" + v + ", 1)", t.sum(v, 1), seconds[v]);
            due("sum(" + v + ", 2)", t.sum(v, 2), 0);
        }
        for (int far : FAR) {
            due("sum(" + far + ", 0)", t.sum(far, 0), 0);
            due("sum(0, " + far + ")", t.sum(0, far), 0);
        }
        due("update(0, 0, 0, max)", t.update(0, 0, 0, Integer.MAX_VALUE), 1);
        due("the sum wraps", t.sum(0, 0), Integer.MAX_VALUE + 90);
    }

    private static void key() {
        promise = "promise 13";
        SchemaTwins t = fourRows();
        int[][] want = {{0, 7, 40, 99}, {7, 40, 99}, {99}, {}};
        for (int v = 0; v < want.length; v++) {
            for (int k = 0; k < want[v].length; k++) {
                due("key(" + v + ", " + k + ")", t.key(v, k), want[v][k]);
            }
            due("key(" + v + ") behind the last", t.key(v, want[v].length), NONE);
            due("key(" + v + ", -1)", t.key(v, -1), NONE);
            due("key(" + v + ", min)", t.key(v, Integer.MIN_VALUE), NONE);
            due("key(" + v + ", max)", t.key(v, Integer.MAX_VALUE), NONE);
        }
        due("key(4, 0)", t.key(4, 0), BAD);
        for (int far : FAR) {
            due("key(" + far + ", 0)", t.key(far, 0), BAD);
            due("key(" + far + ", -1)", t.key(far, -1), BAD);
        }
        due("delete(0, 7)", t.delete(0, 7), 3);
        due("key(0, 1)", t.key(0, 1), 40);
        due("insert(0, 1)", t.insert(0, 1), 4);
        due("key(0, 0)", t.key(0, 0), 0);
        due("key(0, 1)", t.key(0, 1), 1);
    }

    private static void home() {
        promise = "promise 14";
        SchemaTwins t = oneRow(5, 6);
        due("home(1)", t.home(1), false);
        due("DROP 0", t.edit(0, what(DROP, 0, 0), 9), 1);
        due("ADD", t.edit(0, ADD, 8), 2);
        due("update(2, 10, 2, 80)", t.update(2, 10, 2, 80), 1);
        for (int v : new int[] {0, 1, 2, 1}) {
            due("home(" + v + ")", t.home(v), true);
            dueRow(t, 0, 10, 5, 6);
            dueRow(t, 1, 10, 6);
            dueRow(t, 2, 10, 5, 6, 80);
        }
        due("update(1, 10, 0, 60)", t.update(1, 10, 0, 60), 1);
        dueRow(t, 2, 10, 5, 60, 80);
        due("home(3)", t.home(3), false);
        for (int far : FAR) {
            due("home(" + far + ")", t.home(far), false);
        }
        due("home(2)", t.home(2), true);
        due("retract() of the home", t.retract(), 2);
        dueRow(t, 0, 10, 5, 60);
        dueRow(t, 1, 10, 60);
        due("home(2)", t.home(2), false);
    }

    public static void main(String[] args) {
        newObject();
        editValues();
        editAllRows();
        editHiddenRows();
        editRefusals();
        editLimits();
        retract();
        columns();
        draftColumns();
        insertSpreads();
        insertRefusals();
        insertAgain();
        updateSpreads();
        updateLongChain();
        updateRefusals();
        delete();
        shown();
        onlyAtTheEndsOfInt();
        value();
        count();
        sum();
        key();
        home();
        System.out.println(wrong == 0 ? "all answers are as due" : wrong + " answers are not as due");
        if (wrong != 0) {
            System.exit(1);
        }
    }
}
