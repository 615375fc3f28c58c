// The boundary cases of promises 6 to 8: insert, update and delete.
public final class RowsTest extends Boundaries {
    /** Version 1 shows the rows with 5 or more in column 1, version 2 is made of it without that column. */
    private static Table hiding(int defaultNumber) {
        Table t = new Table();
        due(t.edit(0, only(1), 5), 1);
        due(t.edit(1, drop(1), defaultNumber), 2);
        return t;
    }

    private static void insertNoVersion() {
        Table t = oneRow(5, 6);
        due(t.edit(0, ADD, 7), 1);
        nothingChanges(t, () -> {
            for (int v : NO_VERSIONS) {
                due(t.insert(v, 1), BAD);
            }
            due(t.insert(2, 1), BAD);
        });
        due(t.insert(1, 1), 2);
    }

    private static void insertNoKey() {
        Table t = oneRow(5, 6);
        nothingChanges(t, () -> {
            for (int key : NO_KEYS) {
                due(t.insert(0, key), BAD);
            }
        });
        due(t.insert(0, 0), 2);
        due(t.insert(0, 99), 3);
        t.dueKeys(0, 0, 10, 99);
    }

    private static void insertThere() {
        Table t = oneRow(5, 6);
        due(t.edit(0, ADD, 7), 1);
        due(t.update(1, 10, 2, 70), 1);
        t.drafts(8, 9, 10);
        nothingChanges(t, () -> {
            due(t.insert(0, 10), THERE);
            due(t.insert(1, 10), THERE);
        });
        due(t.insert(0, 11), 2);
        due(t.insert(0, 9), 3);
    }

    private static void insertThereWhereItIsNotShown() {
        Table t = hiding(5);
        t.drafts(1, 4);
        due(t.insert(0, 10), 1);
        t.drafts(1, 5);
        nothingChanges(t, () -> {
            due(t.insert(1, 10), THERE);
            due(t.insert(2, 10), THERE);
        });
        due(t.delete(0, 10), 0);
        due(t.insert(1, 10), 1);
    }

    private static void insertFull() {
        Table t = twelveRows();
        nothingChanges(t, () -> {
            for (int key : new int[] {1, 8, 50, 98}) {
                due(t.insert(0, key), FULL);
            }
        });
        due(t.delete(0, 54), 11);
        due(t.insert(0, 50), 12);
        due(t.insert(0, 54), FULL);
    }

    private static void insertTwelfth() {
        Table t = new Table();
        for (int key = 0; key < 12; key++) {
            due(t.insert(0, key), key + 1);
        }
        due(t.insert(0, 12), FULL);
    }

    private static void insertFullOfHiddenRows() {
        Table t = twelveRows();
        due(t.edit(0, only(0), 1000), 1);
        due(t.count(1), 0);
        t.drafts(1000);
        due(t.insert(1, 50), FULL);
        due(t.delete(0, 0), 11);
        due(t.insert(1, 50), 12);
    }

    private static void insertHidden() {
        Table t = hiding(5);
        t.drafts(1, 4);
        nothingChanges(t, () -> {
            due(t.insert(1, 10), HIDDEN);
            due(t.insert(1, 0), HIDDEN);
        });
        due(t.draft(1, 5), true);
        due(t.insert(1, 10), 1);
        t.dueRow(1, 10, 1, 5);
    }

    private static void insertHiddenLeavesTheDraftAndTheKey() {
        Table t = hiding(4);
        t.drafts(1, 4, 3, 2, 7);
        due(t.insert(1, 10), HIDDEN);
        due(t.insert(2, 10), HIDDEN);
        due(t.shown(0, 10), false);
        due(t.update(0, 10, 0, 1), NONE);
        due(t.delete(0, 10), NONE);
        due(t.insert(0, 10), 1);
        t.dueRow(0, 10, 1, 4);
        due(t.edit(0, ADD, 0), 3);
        due(t.edit(3, ADD, 0), 4);
        due(t.edit(4, ADD, 0), 5);
        due(t.insert(5, 11), 2);
        t.dueRow(5, 11, 1, 4, 3, 2, 7);
    }

    private static void insertHiddenByADefault() {
        Table t = hiding(4);
        t.drafts(9);
        nothingChanges(t, () -> due(t.insert(2, 10), HIDDEN));
        Table shows = hiding(5);
        shows.drafts(9);
        due(shows.insert(2, 10), 1);
        shows.dueRow(1, 10, 9, 5);
    }

    private static void insertHiddenByAVersionFarAbove() {
        Table t = new Table();
        due(t.edit(0, only(0), 0), 1);
        for (int v = 2; v <= 7; v++) {
            due(t.edit(v - 1, shift(0), -100), v);
        }
        t.drafts(-601);
        nothingChanges(t, () -> due(t.insert(7, 10), HIDDEN));
        t.drafts(-600);
        due(t.insert(7, 10), 1);
        t.dueRow(1, 10, 0, 0);
    }

    private static void insertHiddenElsewhere() {
        Table t = new Table();
        due(t.edit(0, only(0), 5), 1);
        due(t.edit(0, shift(0), 1), 2);
        due(t.edit(2, only(0), 5), 3);
        t.drafts(4);
        due(t.insert(2, 10), 1);
        t.dueRow(0, 10, 3, 0);
        due(t.shown(1, 10), false);
        due(t.shown(3, 10), false);
        due(t.insert(0, 11), 2);
        due(t.shown(1, 11), false);
        due(t.shown(3, 11), true);
    }

    private static void insertHiddenByAWrap() {
        Table t = new Table();
        due(t.edit(0, only(0), 0), 1);
        due(t.edit(1, shift(0), 1), 2);
        due(t.edit(1, plus(0, 1), 0), 3);
        t.drafts(MIN);
        due(t.insert(2, 1), 1);
        t.dueRow(0, 1, MAX, 0);
        due(t.insert(3, 2), HIDDEN);
        due(t.draft(1, 1), true);
        due(t.insert(3, 2), 2);
        t.dueRow(0, 2, MAX, 1);
        t.drafts(0);
        due(t.insert(2, 3), HIDDEN);
        t.drafts(1);
        due(t.insert(2, 3), 3);
    }

    private static void insertBadBeforeThere() {
        Table t = oneRow(5, 6);
        due(t.insert(1, 10), BAD);
        due(t.insert(-1, 10), BAD);
    }

    private static void insertBadBeforeFull() {
        Table t = twelveRows();
        due(t.insert(1, 50), BAD);
        due(t.insert(-1, 50), BAD);
        due(t.insert(0, 100), BAD);
        due(t.insert(0, -1), BAD);
        due(t.insert(1, 54), BAD);
    }

    private static void insertBadBeforeHidden() {
        Table t = hiding(4);
        due(t.insert(1, 100), BAD);
        due(t.insert(2, -1), BAD);
        due(t.insert(3, 10), BAD);
    }

    private static void insertThereBeforeFull() {
        Table t = twelveRows();
        for (int key = 0; key <= 99; key += 9) {
            due(t.insert(0, key), THERE);
        }
        due(t.insert(0, 1), FULL);
    }

    private static void insertThereBeforeHidden() {
        Table t = hiding(4);
        t.drafts(1, 4);
        due(t.insert(0, 10), 1);
        due(t.insert(1, 10), THERE);
        due(t.insert(2, 10), THERE);
        due(t.insert(1, 11), HIDDEN);
    }

    private static void insertFullBeforeHidden() {
        Table t = twelveRows();
        due(t.edit(0, only(1), 5), 1);
        due(t.insert(1, 50), FULL);
        due(t.delete(0, 99), 11);
        due(t.insert(1, 50), HIDDEN);
    }

    private static void insertRefusedLeavesTheDraft() {
        Table t = twelveRows();
        due(t.edit(0, ADD, 0), 1);
        due(t.edit(1, ADD, 0), 2);
        due(t.edit(2, ADD, 0), 3);
        t.drafts(1, 2, 3, 4, 5);
        due(t.insert(4, 50), BAD);
        due(t.insert(3, 100), BAD);
        due(t.insert(3, 54), THERE);
        due(t.insert(3, 50), FULL);
        due(t.delete(3, 54), 11);
        due(t.insert(3, 50), 12);
        t.dueRow(3, 50, 1, 2, 3, 4, 5);
    }

    private static void insertAnswersTheNumberOfRows() {
        Table t = new Table();
        due(t.edit(0, only(0), 5), 1);
        due(t.insert(0, 1), 1);
        due(t.insert(0, 2), 2);
        t.drafts(5);
        due(t.insert(1, 3), 3);
        due(t.count(1), 1);
        due(t.delete(1, 3), 2);
        due(t.insert(1, 4), 3);
    }

    private static void insertTakesNoMoreThanItsColumns() {
        Table t = oneColumn();
        due(t.edit(1, ADD, 50), 2);
        due(t.edit(0, ADD, 60), 3);
        t.drafts(1, 2, 3, 4, 5);
        due(t.insert(1, 10), 1);
        t.dueRow(1, 10, 1);
        t.dueRow(0, 10, 0, 1);
        t.dueRow(2, 10, 1, 50);
        t.dueRow(3, 10, 0, 1, 60);
    }

    private static void insertOfAKeyThatWasThere() {
        Table t = oneColumn();
        due(t.edit(0, ADD, 60), 2);
        t.drafts(1, 2, 3);
        due(t.insert(2, 10), 1);
        due(t.delete(0, 10), 0);
        due(t.insert(1, 10), 1);
        t.dueRow(0, 10, 0, 1);
        t.dueRow(2, 10, 0, 1, 60);
    }

    private static void updateNoVersion() {
        Table t = oneRow(5, 6);
        nothingChanges(t, () -> {
            for (int v : NO_VERSIONS) {
                due(t.update(v, 10, 0, 9), BAD);
            }
            due(t.update(1, 10, 0, 9), BAD);
        });
        due(t.edit(0, shift(0), 1), 1);
        due(t.update(1, 10, 0, 9), 1);
    }

    private static void updateNoKey() {
        Table t = oneRow(5, 6);
        nothingChanges(t, () -> {
            for (int key : NO_KEYS) {
                due(t.update(0, key, 0, 9), BAD);
            }
        });
        due(t.update(0, 0, 0, 9), NONE);
        due(t.update(0, 99, 0, 9), NONE);
    }

    private static void updateNoColumn() {
        Table t = oneRow(5, 6);
        due(t.edit(0, drop(0), 0), 1);
        due(t.edit(0, ADD, 7), 2);
        due(t.edit(2, ADD, 8), 3);
        due(t.edit(3, ADD, 9), 4);
        int[] widths = {2, 1, 3, 4, 5};
        nothingChanges(t, () -> {
            for (int v = 0; v < widths.length; v++) {
                for (int c : NO_COLUMNS) {
                    due(t.update(v, 10, c, 99), BAD);
                }
                due(t.update(v, 10, widths[v], 99), BAD);
            }
        });
        for (int v = 0; v < widths.length; v++) {
            due(t.update(v, 10, widths[v] - 1, 50 + v), 1);
            due(t.value(v, 10, widths[v] - 1), 50 + v);
        }
    }

    private static void updateNoRow() {
        Table t = oneRow(5, 6);
        nothingChanges(t, () -> {
            for (int key = 0; key <= 99; key++) {
                if (key != 10) {
                    due(t.update(0, key, 0, 9), NONE);
                }
            }
        });
        due(t.delete(0, 10), 0);
        due(t.update(0, 10, 0, 9), NONE);
        due(t.shown(0, 10), false);
    }

    private static void updateNotShown() {
        Table t = oneRow(4, 6);
        due(t.edit(0, only(0), 5), 1);
        due(t.edit(1, ADD, 7), 2);
        nothingChanges(t, () -> {
            due(t.update(1, 10, 1, 9), NONE);
            due(t.update(1, 10, 0, 5), NONE);
            due(t.update(2, 10, 0, 5), NONE);
            due(t.update(2, 10, 2, 99), NONE);
        });
        due(t.update(0, 10, 0, 5), 1);
        t.dueRow(1, 10, 5, 6);
        t.dueRow(2, 10, 5, 6, 7);
    }

    private static void updateHidden() {
        Table t = oneRow(5, 6);
        due(t.edit(0, only(0), 5), 1);
        due(t.edit(1, ADD, 7), 2);
        nothingChanges(t, () -> {
            due(t.update(1, 10, 0, 4), HIDDEN);
            due(t.update(2, 10, 0, 4), HIDDEN);
            due(t.update(1, 10, 0, MIN), HIDDEN);
        });
        due(t.update(1, 10, 0, 6), 1);
        due(t.update(1, 10, 0, 5), 1);
        due(t.update(1, 10, 1, MIN), 1);
        t.dueRow(2, 10, 5, MIN, 7);
    }

    private static void updateHiddenByItsParent() {
        Table t = oneRow(5, 6);
        due(t.edit(0, only(0), 5), 1);
        due(t.edit(1, plus(0, 1), 0), 2);
        nothingChanges(t, () -> {
            due(t.update(2, 10, 1, 7), HIDDEN);
            due(t.update(2, 10, 0, 10), HIDDEN);
        });
        due(t.update(2, 10, 1, 5), 1);
        t.dueRow(0, 10, 6, 5);
        due(t.update(2, 10, 0, 10), 1);
        t.dueRow(0, 10, 5, 5);
    }

    private static void updateHiddenByAWrap() {
        Table t = oneRow(5, 0);
        due(t.edit(0, only(0), 0), 1);
        due(t.edit(1, shift(0), 1), 2);
        nothingChanges(t, () -> due(t.update(2, 10, 0, 0), HIDDEN));
        due(t.update(2, 10, 0, MIN), 1);
        t.dueRow(0, 10, MAX, 0);
    }

    private static void updateHiddenElsewhere() {
        Table t = oneRow(5, 6);
        due(t.edit(0, only(0), 5), 1);
        due(t.edit(0, shift(0), 0), 2);
        due(t.edit(2, only(0), 5), 3);
        due(t.update(1, 10, 0, 6), 1);
        due(t.update(2, 10, 0, 4), 1);
        t.dueRow(0, 10, 4, 6);
        due(t.shown(1, 10), false);
        due(t.shown(3, 10), false);
    }

    private static void updateBadBeforeNone() {
        Table t = oneRow(4, 6);
        due(t.edit(0, only(0), 5), 1);
        due(t.update(2, 11, 0, 9), BAD);
        due(t.update(0, 11, 2, 9), BAD);
        due(t.update(0, 11, -1, 9), BAD);
        due(t.update(1, 10, 2, 9), BAD);
        due(t.update(1, 10, 5, 9), BAD);
        due(t.update(1, 10, 1, 9), NONE);
    }

    private static void updateBadBeforeHidden() {
        Table t = oneRow(5, 6);
        due(t.edit(0, only(0), 5), 1);
        due(t.update(1, 10, 2, 4), BAD);
        due(t.update(1, 10, -1, 4), BAD);
        due(t.update(2, 10, 0, 4), BAD);
        due(t.update(1, 100, 0, 4), BAD);
    }

    private static void updateNoneBeforeHidden() {
        Table t = oneRow(4, 6);
        due(t.edit(0, only(0), 5), 1);
        due(t.update(1, 10, 0, 4), NONE);
        due(t.update(1, 10, 0, 3), NONE);
        due(t.update(1, 11, 0, 3), NONE);
    }

    private static void updateLeavesTheOthers() {
        for (int c = 0; c < 5; c++) {
            Table t = fiveColumns(1, 2, 3);
            t.drafts(10, 11, 12, 13, 14);
            due(t.insert(3, 1), 1);
            due(t.insert(3, 2), 2);
            due(t.update(3, 1, c, 99), 1);
            for (int d = 0; d < 5; d++) {
                due(t.value(3, 1, d), d == c ? 99 : 10 + d);
                due(t.value(3, 2, d), 10 + d);
            }
        }
    }

    private static void updateLeavesTheOthersOfASum() {
        Table t = oneRow(5, 6);
        due(t.edit(0, plus(0, 1), 0), 1);
        due(t.update(1, 10, 1, 7), 1);
        t.dueRow(1, 10, 11, 7);
        t.dueRow(0, 10, 4, 7);
        due(t.update(0, 10, 1, 8), 1);
        t.dueRow(0, 10, 4, 8);
        t.dueRow(1, 10, 12, 8);
    }

    private static void updateToTheSame() {
        Table t = oneRow(5, 6);
        due(t.edit(0, only(0), 5), 1);
        nothingChanges(t, () -> {
            due(t.update(0, 10, 1, 6), 1);
            due(t.update(1, 10, 0, 5), 1);
        });
    }

    private static void updateOfTheEndRows() {
        Table t = twelveRows();
        for (int key : new int[] {0, 9, 90, 99}) {
            due(t.update(0, key, 1, key + 7), 1);
        }
        for (int key = 0; key <= 99; key += 9) {
            boolean changed = key <= 9 || key >= 90;
            t.dueRow(0, key, key, changed ? key + 7 : 0);
        }
    }

    private static void deleteNoVersion() {
        Table t = oneRow(5, 6);
        nothingChanges(t, () -> {
            for (int v : NO_VERSIONS) {
                due(t.delete(v, 10), BAD);
            }
            due(t.delete(1, 10), BAD);
        });
        due(t.edit(0, shift(0), 1), 1);
        due(t.delete(1, 10), 0);
    }

    private static void deleteNoKey() {
        Table t = oneRow(5, 6);
        nothingChanges(t, () -> {
            for (int key : NO_KEYS) {
                due(t.delete(0, key), BAD);
            }
        });
        due(t.delete(0, 0), NONE);
        due(t.delete(0, 99), NONE);
    }

    private static void deleteNoRow() {
        Table t = oneRow(5, 6);
        nothingChanges(t, () -> {
            for (int key = 0; key <= 99; key++) {
                if (key != 10) {
                    due(t.delete(0, key), NONE);
                }
            }
        });
        due(t.delete(0, 10), 0);
        due(t.delete(0, 10), NONE);
        due(t.insert(0, 10), 1);
    }

    private static void deleteNotShown() {
        Table t = oneRow(4, 6);
        due(t.edit(0, only(0), 5), 1);
        due(t.edit(1, shift(0), 100), 2);
        nothingChanges(t, () -> {
            due(t.delete(1, 10), NONE);
            due(t.delete(2, 10), NONE);
        });
        due(t.update(0, 10, 0, 5), 1);
        due(t.delete(2, 10), 0);
    }

    private static void deleteBadBeforeNone() {
        Table t = oneRow(4, 6);
        due(t.edit(0, only(0), 5), 1);
        due(t.delete(2, 10), BAD);
        due(t.delete(2, 11), BAD);
        due(t.delete(-1, 11), BAD);
        due(t.delete(1, 100), BAD);
        due(t.delete(1, -1), BAD);
    }

    private static void deleteInAllVersions() {
        for (int v = 0; v <= 7; v++) {
            Table t = eightVersions();
            due(t.insert(0, 10), 1);
            due(t.insert(0, 11), 2);
            due(t.delete(v, 10), 1);
            for (int w = 0; w <= 7; w++) {
                t.dueKeys(w, 11);
                due(t.shown(w, 10), false);
                due(t.value(w, 10, 0), 0);
            }
        }
    }

    private static void deleteAnswersTheRowsLeft() {
        Table t = twelveRows();
        due(t.edit(0, only(0), 99), 1);
        due(t.delete(1, 99), 11);
        for (int i = 0; i < 11; i++) {
            due(t.delete(0, 9 * i), 10 - i);
        }
        due(t.count(0), 0);
        due(t.delete(0, 0), NONE);
        due(t.insert(0, 0), 1);
    }

    private static void inserts() {
        test("6: 'v is no version: BAD'", RowsTest::insertNoVersion);
        test("6: 'key outside 0..99: BAD'", RowsTest::insertNoKey);
        test("6: 'there is a row with the key: THERE'", RowsTest::insertThere);
        test("6: THERE, where the row is not shown", RowsTest::insertThereWhereItIsNotShown);
        test("6: '12 are there: FULL'", RowsTest::insertFull);
        test("6: the twelfth row is taken", RowsTest::insertTwelfth);
        test("6: FULL of rows that are not shown", RowsTest::insertFullOfHiddenRows);
        test("6: 'it would not be shown in v: HIDDEN'", RowsTest::insertHidden);
        test("6: HIDDEN, 'Then nothing changes'", RowsTest::insertHiddenLeavesTheDraftAndTheKey);
        test("6: HIDDEN by a default", RowsTest::insertHiddenByADefault);
        test("6: HIDDEN by a version far above", RowsTest::insertHiddenByAVersionFarAbove);
        test("6: HIDDEN by a value that wraps", RowsTest::insertHiddenByAWrap);
        test("6: hidden in another version only", RowsTest::insertHiddenElsewhere);
        test("6: BAD before THERE", RowsTest::insertBadBeforeThere);
        test("6: BAD before FULL", RowsTest::insertBadBeforeFull);
        test("6: BAD before HIDDEN", RowsTest::insertBadBeforeHidden);
        test("6: THERE before FULL", RowsTest::insertThereBeforeFull);
        test("6: THERE before HIDDEN", RowsTest::insertThereBeforeHidden);
        test("6: FULL before HIDDEN", RowsTest::insertFullBeforeHidden);
        test("6: BAD, THERE and FULL, 'Then nothing changes'", RowsTest::insertRefusedLeavesTheDraft);
        test("6: 'Else answers the number of rows'", RowsTest::insertAnswersTheNumberOfRows);
        test("6: 'whose values in version v are those of the draft'", RowsTest::insertTakesNoMoreThanItsColumns);
        test("6: 'A new row', with a key that was there before", RowsTest::insertOfAKeyThatWasThere);
    }

    private static void updates() {
        test("7: 'v is no version: BAD'", RowsTest::updateNoVersion);
        test("7: 'key outside 0..99: BAD'", RowsTest::updateNoKey);
        test("7: 'c no column of v: BAD'", RowsTest::updateNoColumn);
        test("7: 'there is no such row: NONE'", RowsTest::updateNoRow);
        test("7: 'it is not shown in v: NONE'", RowsTest::updateNotShown);
        test("7: 'it would not be shown in v any more: HIDDEN'", RowsTest::updateHidden);
        test("7: HIDDEN by the parent", RowsTest::updateHiddenByItsParent);
        test("7: HIDDEN by a value that wraps", RowsTest::updateHiddenByAWrap);
        test("7: hidden in another version only", RowsTest::updateHiddenElsewhere);
        test("7: BAD before NONE", RowsTest::updateBadBeforeNone);
        test("7: BAD before HIDDEN", RowsTest::updateBadBeforeHidden);
        test("7: NONE before HIDDEN", RowsTest::updateNoneBeforeHidden);
        test("7: 'its other values in v stay'", RowsTest::updateLeavesTheOthers);
        test("7: 'its other values in v stay' in a SUM", RowsTest::updateLeavesTheOthersOfASum);
        test("7: 'Else answers 1': the value that is there", RowsTest::updateToTheSame);
        test("7: the first and the last rows", RowsTest::updateOfTheEndRows);
    }

    public static void main(String[] args) {
        inserts();
        updates();
        test("8: 'v is no version: BAD'", RowsTest::deleteNoVersion);
        test("8: 'key outside 0..99: BAD'", RowsTest::deleteNoKey);
        test("8: 'there is no such row: NONE'", RowsTest::deleteNoRow);
        test("8: 'it is not shown in v: NONE'", RowsTest::deleteNotShown);
        test("8: BAD before NONE", RowsTest::deleteBadBeforeNone);
        test("8: 'in all versions'", RowsTest::deleteInAllVersions);
        test("8: 'Else answers the number of rows left'", RowsTest::deleteAnswersTheRowsLeft);
        end();
    }
}
