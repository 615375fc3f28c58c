// The boundary cases of promises 9 to 14: shown, value, count, sum, key and home.
public final class AnswersTest extends Boundaries {
    /** Rows 0, 50 and 99 with 1, 5 and 9 in column 0; version 1 shows 5 and more, version 2 shows none. */
    private static Table threeRows() {
        Table t = new Table();
        int[] keys = {99, 0, 50};
        int[] firsts = {9, 1, 5};
        for (int i = 0; i < keys.length; i++) {
            t.drafts(firsts[i], -firsts[i]);
            due(t.insert(0, keys[i]), i + 1);
        }
        due(t.edit(0, only(0), 5), 1);
        due(t.edit(1, only(1), 0), 2);
        return t;
    }

    private static void shownRows() {
        Table t = threeRows();
        for (int key = 0; key <= 99; key++) {
            due(t.shown(0, key), key == 0 || key == 50 || key == 99);
            due(t.shown(1, key), key == 50 || key == 99);
            due(t.shown(2, key), false);
        }
    }

    private static void shownNoVersion() {
        Table t = threeRows();
        for (int v : NO_VERSIONS) {
            due(t.shown(v, 50), false);
        }
        due(t.shown(3, 50), false);
    }

    private static void shownNoKey() {
        Table t = threeRows();
        for (int key : NO_KEYS) {
            due(t.shown(0, key), false);
            due(t.shown(3, key), false);
        }
    }

    private static void shownWhenTakenOut() {
        Table t = threeRows();
        due(t.delete(0, 50), 2);
        due(t.shown(0, 50), false);
        due(t.shown(1, 50), false);
        due(t.retract(), 2);
        due(t.shown(2, 99), false);
        due(t.shown(1, 99), true);
    }

    private static void valueNotShown() {
        Table t = threeRows();
        due(t.value(0, 0, 0), 1);
        due(t.value(1, 0, 0), 0);
        due(t.value(1, 0, 1), 0);
        due(t.value(2, 99, 0), 0);
        due(t.value(1, 50, 0), 5);
        due(t.value(1, 50, 1), -5);
    }

    private static void valueNoVersion() {
        Table t = threeRows();
        for (int v : NO_VERSIONS) {
            due(t.value(v, 50, 0), 0);
        }
        due(t.value(3, 50, 0), 0);
        due(t.edit(0, shift(0), 1), 3);
        due(t.value(3, 50, 0), 6);
        due(t.retract(), 3);
        due(t.value(3, 50, 0), 0);
    }

    private static void valueNoColumn() {
        Table t = oneRow(5, 6);
        due(t.edit(0, drop(0), 0), 1);
        due(t.edit(0, ADD, 7), 2);
        due(t.edit(2, ADD, 8), 3);
        due(t.edit(3, ADD, 9), 4);
        int[] widths = {2, 1, 3, 4, 5};
        int[] lasts = {6, 6, 7, 8, 9};
        for (int v = 0; v < widths.length; v++) {
            for (int c : NO_COLUMNS) {
                due(t.value(v, 10, c), 0);
            }
            due(t.value(v, 10, widths[v]), 0);
            due(t.value(v, 10, widths[v] - 1), lasts[v]);
        }
    }

    // A version that was wider before it was made anew has left something behind its last column.
    private static void valueNoColumnAnyMore() {
        Table t = oneRow(5, 6);
        due(t.edit(0, ADD, 7), 1);
        due(t.retract(), 1);
        due(t.edit(0, drop(0), 0), 1);
        due(t.value(1, 10, 0), 6);
        due(t.value(1, 10, 1), 0);
        due(t.value(1, 10, 2), 0);
        due(t.sum(1, 1), 0);
        due(t.sum(1, 2), 0);
    }

    private static void valueNoRow() {
        Table t = threeRows();
        for (int key : NO_KEYS) {
            due(t.value(0, key, 0), 0);
        }
        due(t.value(0, 1, 0), 0);
        due(t.delete(0, 50), 2);
        due(t.value(0, 50, 0), 0);
    }

    private static void countFromNoneToTwelve() {
        Table t = new Table();
        due(t.edit(0, only(0), 6), 1);
        for (int i = 0; i < 12; i++) {
            due(t.count(0), i);
            due(t.count(1), i < 6 ? 0 : i - 6);
            t.drafts(i);
            due(t.insert(0, i), i + 1);
        }
        due(t.count(0), 12);
        due(t.count(1), 6);
    }

    private static void countNoVersion() {
        Table t = threeRows();
        for (int v : NO_VERSIONS) {
            due(t.count(v), BAD);
        }
        due(t.count(3), BAD);
        due(t.count(2), 0);
        due(t.retract(), 2);
        due(t.count(2), BAD);
    }

    private static void sumOfShownRows() {
        Table t = threeRows();
        due(t.sum(0, 0), 15);
        due(t.sum(0, 1), -15);
        due(t.sum(1, 0), 14);
        due(t.sum(1, 1), -14);
        due(t.sum(2, 0), 0);
        due(t.delete(0, 99), 2);
        due(t.sum(1, 0), 5);
    }

    private static void sumNoVersion() {
        Table t = threeRows();
        for (int v : NO_VERSIONS) {
            due(t.sum(v, 0), 0);
        }
        due(t.sum(3, 0), 0);
        due(t.edit(0, shift(0), 1), 3);
        due(t.sum(3, 0), 18);
        due(t.retract(), 3);
        due(t.sum(3, 0), 0);
    }

    private static void sumNoColumn() {
        Table t = oneRow(5, 6);
        due(t.edit(0, drop(0), 0), 1);
        due(t.edit(0, ADD, 7), 2);
        due(t.edit(2, ADD, 8), 3);
        due(t.edit(3, ADD, 9), 4);
        int[] widths = {2, 1, 3, 4, 5};
        int[] lasts = {6, 6, 7, 8, 9};
        for (int v = 0; v < widths.length; v++) {
            for (int c : NO_COLUMNS) {
                due(t.sum(v, c), 0);
            }
            due(t.sum(v, widths[v]), 0);
            due(t.sum(v, widths[v] - 1), lasts[v]);
        }
    }

    private static void sumWraps() {
        Table t = new Table();
        t.drafts(MAX, MIN);
        due(t.insert(0, 0), 1);
        due(t.sum(0, 0), MAX);
        due(t.sum(0, 1), MIN);
        t.drafts(1, -1);
        due(t.insert(0, 1), 2);
        due(t.sum(0, 0), MIN);
        due(t.sum(0, 1), MAX);
        t.drafts(MAX, MIN);
        due(t.insert(0, 2), 3);
        due(t.sum(0, 0), -1);
        due(t.sum(0, 1), -1);
    }

    private static void sumOfTwelve() {
        Table t = new Table();
        t.drafts(MAX, MIN);
        for (int key = 88; key <= 99; key++) {
            due(t.insert(0, key), key - 87);
        }
        due(t.sum(0, 0), -12);
        due(t.sum(0, 1), 0);
    }

    private static void keysAscend() {
        Table t = twelveRows();
        due(t.edit(0, only(0), 50), 1);
        t.dueKeys(0, 0, 9, 18, 27, 36, 45, 54, 63, 72, 81, 90, 99);
        t.dueKeys(1, 54, 63, 72, 81, 90, 99);
        due(t.delete(0, 0), 11);
        due(t.insert(0, 55), 12);
        t.dueKeys(0, 9, 18, 27, 36, 45, 54, 55, 63, 72, 81, 90, 99);
        t.dueKeys(1, 54, 63, 72, 81, 90, 99);
    }

    private static void keyNoVersion() {
        Table t = threeRows();
        for (int v : NO_VERSIONS) {
            due(t.key(v, 0), BAD);
        }
        due(t.key(3, 0), BAD);
        due(t.retract(), 2);
        due(t.key(2, 0), BAD);
    }

    private static void keyNoRow() {
        Table t = threeRows();
        int[] counts = {3, 2, 0};
        for (int v = 0; v < counts.length; v++) {
            for (int k : new int[] {MIN, MIN + 1, -2, -1, 12, 99, 100, MAX - 1, MAX}) {
                due(t.key(v, k), NONE);
            }
            for (int k = counts[v]; k < 12; k++) {
                due(t.key(v, k), NONE);
            }
        }
        due(t.key(0, 2), 99);
        due(t.key(1, 1), 99);
        due(t.key(0, 0), 0);
    }

    private static void keyBadBeforeNone() {
        Table t = threeRows();
        for (int k : new int[] {MIN, -1, 3, 12, MAX}) {
            due(t.key(3, k), BAD);
            due(t.key(-1, k), BAD);
        }
    }

    private static void keyOfAnEmptyTable() {
        Table t = new Table();
        due(t.key(0, 0), NONE);
        due(t.key(0, -1), NONE);
        due(t.insert(0, 0), 1);
        due(t.key(0, 0), 0);
        due(t.delete(0, 0), 0);
        due(t.key(0, 0), NONE);
    }

    private static void homeNoVersion() {
        Table t = threeRows();
        nothingChanges(t, () -> {
            for (int v : NO_VERSIONS) {
                due(t.home(v), false);
            }
            due(t.home(3), false);
        });
    }

    private static void homeOfEveryVersion() {
        Table t = new Table();
        due(t.home(0), true);
        for (int v = 1; v <= 7; v++) {
            due(t.home(v), false);
            due(t.edit(v - 1, shift(0), 1), v);
            due(t.home(v), true);
        }
        due(t.home(8), false);
        due(t.home(0), true);
        due(t.retract(), 7);
        due(t.home(7), false);
        due(t.home(6), true);
    }

    /** The same changes, with the rows kept in this version from when it is there; -1: nothing is said of it. */
    private static String changesWithHome(int home) {
        Table t = oneRow(5, 6);
        int[] whats = {ADD, drop(0), only(0), plus(1, 0), exchange(0, 1)};
        int[] parents = {0, 1, 1, 3, 0};
        for (int i = 0; i < whats.length; i++) {
            due(t.edit(parents[i], whats[i], 3 + i), i + 1);
            if (home >= 0 && home <= i + 1) {
                due(t.home(home), true);
            }
        }
        StringBuilder seen = new StringBuilder(t.state());
        t.drafts(1, 20, 30);
        seen.append(t.insert(2, 11)).append(t.insert(4, 12)).append(t.insert(3, 13));
        seen.append(t.update(1, 10, 2, 70)).append(t.update(2, 10, 0, 9)).append(t.update(0, 10, 0, 2));
        seen.append(t.update(5, 10, 0, 8)).append(t.update(0, 11, 0, 50)).append(t.delete(3, 10));
        seen.append(t.state());
        for (int left = 5; left >= 1; left--) {
            due(t.retract(), left);
            seen.append(t.state());
        }
        return seen.toString();
    }

    private static void homeShowsInNoAnswer() {
        String without = changesWithHome(-1);
        for (int home = 0; home <= 5; home++) {
            due(changesWithHome(home), without);
        }
    }

    private static void homeOfHiddenRows() {
        Table t = threeRows();
        due(t.edit(1, ADD, 7), 3);
        due(t.home(2), true);
        due(t.home(3), true);
        due(t.home(1), true);
        t.dueKeys(0, 0, 50, 99);
        t.dueRow(0, 0, 1, -1);
        due(t.update(0, 0, 0, 5), 1);
        t.dueRow(3, 0, 5, -1, 7);
    }

    private static void homeIsTakenAway() {
        Table t = oneRow(5, 6);
        due(t.edit(0, ADD, 7), 1);
        due(t.edit(1, drop(0), 8), 2);
        due(t.update(1, 10, 2, 70), 1);
        due(t.home(2), true);
        due(t.retract(), 2);
        t.dueRow(0, 10, 5, 6);
        t.dueRow(1, 10, 5, 6, 70);
        due(t.insert(1, 11), 2);
        t.dueRow(1, 11, 5, 6, 0);
    }

    public static void main(String[] args) {
        test("9: 'there is a row with the key and it is shown in version v'", AnswersTest::shownRows);
        test("9: 'false if there is no version v'", AnswersTest::shownNoVersion);
        test("9: a key outside 0..99", AnswersTest::shownNoKey);
        test("9: a row that was taken out", AnswersTest::shownWhenTakenOut);
        test("10: '0 if it is not shown there'", AnswersTest::valueNotShown);
        test("10: '0 if there is no such version'", AnswersTest::valueNoVersion);
        test("10: '0 if there is no such column'", AnswersTest::valueNoColumn);
        test("10 and 12: no such column any more", AnswersTest::valueNoColumnAnyMore);
        test("10: a row that is not there", AnswersTest::valueNoRow);
        test("11: 'The number of rows that are shown in version v'", AnswersTest::countFromNoneToTwelve);
        test("11: 'BAD if there is none'", AnswersTest::countNoVersion);
        test("12: 'of the rows that are shown in version v'", AnswersTest::sumOfShownRows);
        test("12: '0 if there is no such version'", AnswersTest::sumNoVersion);
        test("12: '0 if there is no such column'", AnswersTest::sumNoColumn);
        test("12: the sum wraps", AnswersTest::sumWraps);
        test("12: the sum of twelve rows", AnswersTest::sumOfTwelve);
        test("13: 'in ascending order'", AnswersTest::keysAscend);
        test("13: 'There is no version v: BAD'", AnswersTest::keyNoVersion);
        test("13: 'there is no such row: NONE'", AnswersTest::keyNoRow);
        test("13: BAD before NONE", AnswersTest::keyBadBeforeNone);
        test("13: an empty table", AnswersTest::keyOfAnEmptyTable);
        test("14: 'v is no version: refused, answers false'", AnswersTest::homeNoVersion);
        test("14: 'Else true'", AnswersTest::homeOfEveryVersion);
        test("14: 'It shows in no answer'", AnswersTest::homeShowsInNoAnswer);
        test("14: rows that are not shown in the version they are kept in", AnswersTest::homeOfHiddenRows);
        test("14: the version that rows are kept in is taken away", AnswersTest::homeIsTakenAway);
        end();
    }
}
