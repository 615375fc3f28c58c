// What the tests of boundary cases share: a table whose calls are named and counted, and the judging of answers.
abstract class Boundaries {
    static final int BAD = SchemaTwins.BAD;
    static final int FULL = SchemaTwins.FULL;
    static final int THERE = SchemaTwins.THERE;
    static final int HIDDEN = SchemaTwins.HIDDEN;
    static final int NONE = SchemaTwins.NONE;

    static final int MIN = Integer.MIN_VALUE;
    static final int MAX = Integer.MAX_VALUE;

    static final int[] NO_VERSIONS = {MIN, MIN + 1, -8, -2, -1, 8, 9, 100, MAX - 1, MAX};
    static final int[] NO_COLUMNS = {MIN, MIN + 1, -5, -2, -1, 5, 6, 100, MAX - 1, MAX};
    static final int[] NO_KEYS = {MIN, MIN + 1, -100, -2, -1, 100, 101, 1000, MAX - 1, MAX};

    static final int ADD = 0;
    static final int CALLS = 512;

    private static String sentence = "";
    private static String lastCall = "";
    private static int tests = 0;
    private static int failed = 0;
    private static int wrongHere = 0;

    static int drop(int x) {
        return 1 + 8 * x;
    }

    static int shift(int x) {
        return 2 + 8 * x;
    }

    static int only(int x) {
        return 3 + 8 * x;
    }

    static int exchange(int x, int z) {
        return 4 + 8 * x + 64 * z;
    }

    static int plus(int x, int z) {
        return 5 + 8 * x + 64 * z;
    }

    /** One test: the promise and the sentence of the document that it holds to. */
    static void test(String words, Runnable calls) {
        sentence = words;
        wrongHere = 0;
        try {
            calls.run();
        } catch (RuntimeException | StackOverflowError thrown) {
            wrong(lastCall + " threw " + thrown);
        }
        tests++;
        failed += wrongHere > 0 ? 1 : 0;
    }

    static void end() {
        System.out.println(tests + " sentences, " + failed + " broken");
        if (failed != 0) {
            System.exit(1);
        }
    }

    private static void wrong(String what) {
        wrongHere++;
        System.out.println(sentence + ": " + what);
    }

    static void due(int got, int want) {
        if (got != want) {
            wrong(lastCall + " answered " + got + ", due is " + want);
        }
    }

    static void due(boolean got, boolean want) {
        if (got != want) {
            wrong(lastCall + " answered " + got + ", due is " + want);
        }
    }

    static void due(String got, String want) {
        if (!got.equals(want)) {
            wrong("the table shows " + got + ", due is " + want);
        }
    }

    /** The calls are refused, and all that the table shows stays as it was. */
    static void nothingChanges(Table t, Runnable refusedCalls) {
        String before = t.state();
        refusedCalls.run();
        due(t.state(), before);
    }

    /** A table with the row 10 that has these values in version 0. */
    static Table oneRow(int first, int second) {
        Table t = new Table();
        t.drafts(first, second);
        due(t.insert(0, 10), 1);
        return t;
    }

    /** Versions 0, 1, 2 and 3 with 2, 3, 4 and 5 columns, each an ADD to the one before. */
    static Table fiveColumns(int first, int second, int third) {
        Table t = new Table();
        due(t.edit(0, ADD, first), 1);
        due(t.edit(1, ADD, second), 2);
        due(t.edit(2, ADD, third), 3);
        return t;
    }

    /** Version 1 has one column, that was column 1 of version 0. */
    static Table oneColumn() {
        Table t = new Table();
        due(t.edit(0, drop(0), 0), 1);
        return t;
    }

    /** Eight versions, all with two columns. */
    static Table eightVersions() {
        Table t = new Table();
        for (int v = 1; v <= 7; v++) {
            due(t.edit(0, shift(0), v), v);
        }
        return t;
    }

    /** Twelve rows, with the keys 0, 9, 18 .. 99, put in from the last to the first, the key in column 0. */
    static Table twelveRows() {
        Table t = new Table();
        for (int i = 0; i < 12; i++) {
            t.drafts(99 - 9 * i);
            due(t.insert(0, 99 - 9 * i), i + 1);
        }
        return t;
    }

    static final class Table {
        private final SchemaTwins twins = new SchemaTwins();
        private int calls = 0;

        // What an object answers after its 512th call is free, so a test that goes on is itself at fault.
        private void call(String name, int... arguments) {
            StringBuilder text = new StringBuilder(name).append('(');
            for (int i = 0; i < arguments.length; i++) {
                text.append(i == 0 ? "" : ", ").append(arguments[i]);
            }
            lastCall = text.append(')').toString();
            calls++;
            if (calls > CALLS) {
                wrong("the test makes more than " + CALLS + " calls");
            }
        }

        int calls() {
            return calls;
        }

        int edit(int v, int what, int y) {
            call("edit", v, what, y);
            return twins.edit(v, what, y);
        }

        int retract() {
            call("retract");
            return twins.retract();
        }

        int columns(int v) {
            call("columns", v);
            return twins.columns(v);
        }

        boolean draft(int c, int value) {
            call("draft", c, value);
            return twins.draft(c, value);
        }

        int insert(int v, int key) {
            call("insert", v, key);
            return twins.insert(v, key);
        }

        int update(int v, int key, int c, int value) {
            call("update", v, key, c, value);
            return twins.update(v, key, c, value);
        }

        int delete(int v, int key) {
            call("delete", v, key);
            return twins.delete(v, key);
        }

        boolean shown(int v, int key) {
            call("shown", v, key);
            return twins.shown(v, key);
        }

        int value(int v, int key, int c) {
            call("value", v, key, c);
            return twins.value(v, key, c);
        }

        int count(int v) {
            call("count", v);
            return twins.count(v);
        }

        int sum(int v, int c) {
            call("sum", v, c);
            return twins.sum(v, c);
        }

        int key(int v, int k) {
            call("key", v, k);
            return twins.key(v, k);
        }

        boolean home(int v) {
            call("home", v);
            return twins.home(v);
        }

        /** Drafts these values from column 0 on. */
        void drafts(int... values) {
            for (int c = 0; c < values.length; c++) {
                due(draft(c, values[c]), true);
            }
        }

        /** The row is shown in the version and has exactly these values there. */
        void dueRow(int v, int key, int... values) {
            due(columns(v), values.length);
            due(shown(v, key), true);
            for (int c = 0; c < values.length; c++) {
                due(value(v, key, c), values[c]);
            }
        }

        /** Exactly these rows are shown in the version. */
        void dueKeys(int v, int... keys) {
            due(count(v), keys.length);
            for (int k = 0; k < keys.length; k++) {
                due(key(v, k), keys[k]);
            }
            due(key(v, keys.length), NONE);
        }

        /** All that can be asked: the versions, and the rows that each one shows, with their values. */
        String state() {
            StringBuilder text = new StringBuilder();
            for (int v = 0; v < 9; v++) {
                int columns = columns(v);
                int rows = count(v);
                text.append('[').append(columns).append(' ').append(rows);
                for (int k = 0; k < rows; k++) {
                    int key = key(v, k);
                    text.append(" | ").append(key).append(':');
                    for (int c = 0; c < columns; c++) {
                        text.append(' ').append(value(v, key, c));
                    }
                }
                text.append(']');
            }
            return text.toString();
        }
    }
}
