// The boundary cases of promises 1 to 5: a new object, edit, retract, columns and draft.
public final class VersionsTest extends Boundaries {
    private static void newHasTwoColumns() {
        Table t = new Table();
        due(t.columns(0), 2);
        due(t.columns(1), BAD);
        due(t.home(1), false);
        due(t.edit(1, ADD, 0), BAD);
        due(t.retract(), BAD);
        due(t.edit(0, ADD, 0), 1);
    }

    private static void newHasNoRows() {
        Table t = new Table();
        due(t.count(0), 0);
        due(t.key(0, 0), NONE);
        due(t.sum(0, 0), 0);
        due(t.sum(0, 1), 0);
        for (int key = 0; key <= 99; key++) {
            due(t.shown(0, key), false);
            due(t.delete(0, key), NONE);
            due(t.update(0, key, 0, 1), NONE);
        }
        due(t.insert(0, 0), 1);
    }

    private static void newDraftIsZero() {
        Table t = fiveColumns(9, 9, 9);
        due(t.insert(3, 0), 1);
        t.dueRow(3, 0, 0, 0, 0, 0, 0);
        due(t.insert(0, 1), 2);
        t.dueRow(0, 1, 0, 0);
    }

    private static void newIsOfItsOwn() {
        Table first = fiveColumns(9, 9, 9);
        first.drafts(1, 2, 3, 4, 5);
        due(first.insert(3, 50), 1);
        Table second = new Table();
        due(second.columns(1), BAD);
        due(second.shown(0, 50), false);
        due(second.insert(0, 51), 1);
        second.dueRow(0, 51, 0, 0);
        due(first.shown(0, 51), false);
        due(first.insert(0, 52), 2);
        first.dueRow(0, 52, 1, 2);
    }

    // Only a number that keeps its three parts apart tells these edits from each other.
    private static void editWhat() {
        Table t = fiveColumns(0, 0, 0);
        t.drafts(10, 20, 30, 40, 50);
        due(t.insert(3, 1), 1);
        due(t.edit(3, 4 + 8 * 4 + 64 * 1, 0), 4);
        t.dueRow(4, 1, 10, 50, 30, 40, 20);
        due(t.edit(3, 5 + 8 * 0 + 64 * 4, 0), 5);
        t.dueRow(5, 1, 60, 20, 30, 40, 50);
        due(t.edit(3, 5 + 8 * 4 + 64 * 0, 0), 6);
        t.dueRow(6, 1, 10, 20, 30, 40, 60);
        due(t.edit(3, 1 + 8 * 3 + 64 * 2, 0), 7);
        t.dueRow(7, 1, 10, 20, 30, 50);
    }

    private static void editNumbers() {
        for (int y : new int[] {MIN, -1, 0, 1, MAX}) {
            Table t = oneRow(5, 6);
            due(t.edit(0, ADD, y), 1);
            t.dueRow(1, 10, 5, 6, y);
            due(t.edit(0, shift(1), y), 2);
            t.dueRow(2, 10, 5, 6 + y);
            due(t.edit(0, only(0), y), 3);
            due(t.shown(3, 10), 5 >= y);
            due(t.edit(0, exchange(0, 1), y), 4);
            t.dueRow(4, 10, 6, 5);
            due(t.edit(0, plus(0, 1), y), 5);
            t.dueRow(5, 10, 11, 6);
            due(t.edit(0, drop(0), y), 6);
            t.dueRow(6, 10, 6);
        }
    }

    private static void editGivesRowsTheDefault() {
        Table t = twelveRows();
        due(t.edit(0, only(0), 50), 1);
        due(t.edit(1, ADD, 77), 2);
        due(t.retract(), 2);
        due(t.edit(1, ADD, 7), 2);
        due(t.sum(2, 2), 7 * 6);
        for (int k = 0; k < 12; k++) {
            due(t.update(0, 9 * k, 0, 50), 1);
            t.dueRow(2, 9 * k, 50, 0, 7);
        }
    }

    private static void editLeavesTheParentsFreeValues() {
        Table t = oneRow(5, 6);
        t.drafts(3, 4);
        due(t.insert(0, 11), 2);
        due(t.edit(0, only(0), 5), 1);
        due(t.edit(1, drop(1), 99), 2);
        t.dueRow(0, 10, 5, 6);
        t.dueRow(1, 10, 5, 6);
        t.dueRow(2, 10, 5);
        t.dueRow(0, 11, 3, 4);
        due(t.update(0, 11, 0, 5), 1);
        t.dueRow(1, 11, 5, 4);
    }

    private static void editOfNoVersion() {
        Table t = oneRow(5, 6);
        due(t.edit(0, ADD, 7), 1);
        nothingChanges(t, () -> {
            for (int v : NO_VERSIONS) {
                due(t.edit(v, ADD, 0), BAD);
                due(t.edit(v, shift(0), 0), BAD);
            }
            due(t.edit(2, ADD, 0), BAD);
        });
        due(t.edit(1, ADD, 8), 2);
        due(t.retract(), 2);
        due(t.edit(2, ADD, 0), BAD);
        due(t.edit(1, shift(2), 1), 2);
    }

    private static void editWhatBelowZero() {
        Table t = oneRow(5, 6);
        nothingChanges(t, () -> {
            for (int what : new int[] {-1, -2, -3, -6, -8, -64, -512, -511, MIN, MIN + 2}) {
                due(t.edit(0, what, 1), BAD);
            }
        });
        due(t.edit(0, 0, 1), 1);
    }

    private static void editWhatAboveTheGreatest() {
        Table t = oneRow(5, 6);
        nothingChanges(t, () -> {
            for (int what : new int[] {512, 513, 514, 516, 512 + exchange(0, 1), 1024, 4096, 1 << 30, MAX}) {
                due(t.edit(0, what, 1), BAD);
            }
        });
        due(t.edit(0, 511, 1), BAD);
        due(t.edit(0, 504, 1), 1);
    }

    private static void editGreatestWhat() {
        Table t = eightVersions();
        due(t.edit(0, 511, 0), FULL);
        due(t.edit(0, 512, 0), BAD);
        due(t.edit(0, 0, 0), FULL);
        due(t.edit(0, -1, 0), BAD);
    }

    private static void editWhenFull() {
        Table t = eightVersions();
        t.drafts(1, 2);
        due(t.insert(0, 10), 1);
        nothingChanges(t, () -> {
            for (int v = 0; v <= 7; v++) {
                due(t.edit(v, ADD, 0), FULL);
                due(t.edit(v, drop(1), 0), FULL);
                due(t.edit(v, shift(1), 1), FULL);
                due(t.edit(v, only(1), 1), FULL);
                due(t.edit(v, exchange(0, 1), 0), FULL);
                due(t.edit(v, plus(0, 1), 0), FULL);
            }
        });
        due(t.retract(), 7);
        due(t.edit(0, ADD, 0), 7);
    }

    private static void editNoVersionBeforeFull() {
        Table t = eightVersions();
        for (int v : NO_VERSIONS) {
            due(t.edit(v, ADD, 0), BAD);
        }
    }

    private static void editWhatBeforeFull() {
        Table t = eightVersions();
        for (int what : new int[] {-1, MIN, 512, MAX}) {
            due(t.edit(0, what, 0), BAD);
        }
    }

    private static void editFullBeforeKindAndColumns() {
        Table t = eightVersions();
        due(t.edit(0, 6, 0), FULL);
        due(t.edit(0, 7, 0), FULL);
        due(t.edit(0, drop(2), 0), FULL);
        due(t.edit(0, shift(7), 0), FULL);
        due(t.edit(0, exchange(0, 2), 0), FULL);
        due(t.edit(0, plus(0, 7), 0), FULL);
        due(t.edit(0, plus(1, 1), 0), FULL);
    }

    private static void editKindAboveFive() {
        Table t = oneRow(5, 6);
        nothingChanges(t, () -> {
            for (int x = 0; x <= 7; x++) {
                for (int z = 0; z <= 7; z++) {
                    due(t.edit(0, 6 + 8 * x + 64 * z, 0), BAD);
                    due(t.edit(0, 7 + 8 * x + 64 * z, 0), BAD);
                }
            }
        });
        due(t.edit(0, plus(0, 1), 0), 1);
    }

    /** Versions 1 to 4 have 1, 3, 4 and 5 columns, version 0 has 2; answers a version with so many. */
    private static int versionWith(int columns) {
        return columns == 2 ? 0 : columns == 1 ? 1 : columns - 1;
    }

    private static Table allWidths() {
        Table t = new Table();
        due(t.edit(0, drop(0), 0), 1);
        due(t.edit(0, ADD, 0), 2);
        due(t.edit(2, ADD, 0), 3);
        due(t.edit(3, ADD, 0), 4);
        for (int columns = 1; columns <= 5; columns++) {
            due(t.columns(versionWith(columns)), columns);
        }
        return t;
    }

    private static void editNoColumnX() {
        Table t = allWidths();
        nothingChanges(t, () -> {
            for (int columns = 1; columns <= 5; columns++) {
                for (int x = columns; x <= 7; x++) {
                    int v = versionWith(columns);
                    due(t.edit(v, drop(x), 0), BAD);
                    due(t.edit(v, shift(x), 0), BAD);
                    due(t.edit(v, only(x), 0), BAD);
                    due(t.edit(v, exchange(x, 0), 0), BAD);
                    due(t.edit(v, plus(x, 0), 0), BAD);
                }
            }
        });
    }

    private static void editLastColumnX() {
        Table t = allWidths();
        for (int columns = 1; columns <= 5; columns++) {
            int v = versionWith(columns);
            int x = columns - 1;
            int[] whats = {drop(x), shift(x), only(x), exchange(x, 0), plus(x, 0)};
            for (int what : whats) {
                if (columns > 1 || what != drop(x) && what != plus(x, 0)) {
                    due(t.edit(v, what, 0), 5);
                    due(t.retract(), 5);
                }
            }
        }
    }

    private static void editAnyXInAdd() {
        Table t = oneRow(5, 6);
        for (int x = 0; x <= 7; x++) {
            for (int z = 0; z <= 7; z++) {
                due(t.edit(0, ADD + 8 * x + 64 * z, 9), 1);
                due(t.value(1, 10, 0) + t.value(1, 10, 1) + t.value(1, 10, 2), 20);
                due(t.retract(), 1);
            }
        }
    }

    private static void editNoColumnZ() {
        Table t = allWidths();
        nothingChanges(t, () -> {
            for (int columns = 1; columns <= 5; columns++) {
                for (int z = columns; z <= 7; z++) {
                    int v = versionWith(columns);
                    due(t.edit(v, exchange(0, z), 0), BAD);
                    due(t.edit(v, plus(0, z), 0), BAD);
                }
            }
        });
    }

    private static void editLastColumnZ() {
        Table t = allWidths();
        for (int columns = 1; columns <= 5; columns++) {
            int v = versionWith(columns);
            due(t.edit(v, exchange(0, columns - 1), 0), 5);
            due(t.retract(), 5);
            due(t.edit(v, plus(0, columns - 1), 0), columns == 1 ? BAD : 5);
            due(t.retract(), columns == 1 ? 4 : 5);
            if (columns == 1) {
                due(t.edit(3, ADD, 0), 4);
            }
        }
    }

    private static void editAnyZElsewhere() {
        for (int z = 0; z <= 7; z++) {
            Table t = oneRow(5, 6);
            due(t.edit(0, drop(1) + 64 * z, 0), 1);
            due(t.edit(0, shift(1) + 64 * z, 100), 2);
            due(t.edit(0, only(1) + 64 * z, 6), 3);
            due(t.edit(0, only(1) + 64 * z, 7), 4);
            t.dueRow(1, 10, 5);
            t.dueRow(2, 10, 5, 106);
            t.dueRow(3, 10, 5, 6);
            due(t.shown(4, 10), false);
        }
    }

    private static void editSumOfOneColumn() {
        Table t = allWidths();
        nothingChanges(t, () -> {
            for (int columns = 1; columns <= 5; columns++) {
                for (int x = 0; x < columns; x++) {
                    due(t.edit(versionWith(columns), plus(x, x), 0), BAD);
                }
            }
        });
    }

    private static void editNoColumnLeft() {
        Table t = oneColumn();
        t.drafts(5);
        due(t.insert(1, 10), 1);
        nothingChanges(t, () -> due(t.edit(1, drop(0), 9), FULL));
        due(t.edit(1, shift(0), 1), 2);
        due(t.edit(1, only(0), 1), 3);
        due(t.edit(1, exchange(0, 0), 0), 4);
        due(t.edit(1, ADD, 0), 5);
        due(t.edit(5, drop(0), 0), 6);
        due(t.edit(6, drop(0), 0), FULL);
        due(t.columns(6), 1);
    }

    private static void editTwoColumnsLeft() {
        Table t = new Table();
        due(t.edit(0, drop(1), 0), 1);
        due(t.columns(1), 1);
    }

    private static void editSixthColumn() {
        Table t = fiveColumns(1, 2, 3);
        due(t.insert(3, 10), 1);
        nothingChanges(t, () -> due(t.edit(3, ADD, 9), FULL));
        due(t.edit(3, shift(4), 1), 4);
        due(t.edit(3, plus(4, 3), 1), 5);
        due(t.edit(3, drop(4), 0), 6);
        due(t.edit(6, ADD, 0), 7);
        due(t.columns(7), 5);
    }

    private static void editFourColumns() {
        Table t = fiveColumns(1, 2, 3);
        due(t.columns(2), 4);
        due(t.edit(2, ADD, 0), 4);
        due(t.columns(4), 5);
    }

    private static void editColumnsBeforeNoColumnLeft() {
        Table t = oneColumn();
        for (int x = 1; x <= 7; x++) {
            due(t.edit(1, drop(x), 0), BAD);
        }
        due(t.edit(1, drop(0), 0), FULL);
    }

    private static void editAnswersItsNumber() {
        Table t = new Table();
        int[] parents = {0, 0, 1, 0, 3, 2, 6};
        for (int i = 0; i < parents.length; i++) {
            due(t.edit(parents[i], exchange(0, 1), 0), i + 1);
        }
    }

    private static void retractOfVersionZero() {
        Table t = oneRow(5, 6);
        nothingChanges(t, () -> {
            due(t.retract(), BAD);
            due(t.retract(), BAD);
        });
        due(t.edit(0, ADD, 0), 1);
        due(t.retract(), 1);
        due(t.retract(), BAD);
        due(t.columns(0), 2);
        due(t.insert(0, 11), 2);
    }

    private static void retractAnswersWhatIsLeft() {
        Table t = eightVersions();
        for (int left = 7; left >= 1; left--) {
            due(t.retract(), left);
            due(t.columns(left), BAD);
            due(t.columns(left - 1), 2);
        }
        due(t.retract(), BAD);
    }

    private static void retractOfTheLatest() {
        Table t = oneRow(5, 6);
        due(t.edit(0, shift(0), 10), 1);
        due(t.edit(0, shift(0), 20), 2);
        due(t.edit(1, shift(0), 30), 3);
        due(t.retract(), 3);
        t.dueRow(0, 10, 5, 6);
        t.dueRow(1, 10, 15, 6);
        t.dueRow(2, 10, 25, 6);
        due(t.retract(), 2);
        t.dueRow(1, 10, 15, 6);
    }

    private static void retractedIsNoVersion() {
        Table t = oneRow(5, 6);
        due(t.edit(0, shift(0), 1), 1);
        due(t.home(1), true);
        due(t.retract(), 1);
        nothingChanges(t, () -> {
            due(t.columns(1), BAD);
            due(t.edit(1, ADD, 0), BAD);
            due(t.insert(1, 11), BAD);
            due(t.update(1, 10, 0, 9), BAD);
            due(t.delete(1, 10), BAD);
            due(t.shown(1, 10), false);
            due(t.value(1, 10, 0), 0);
            due(t.count(1), BAD);
            due(t.sum(1, 0), 0);
            due(t.key(1, 0), BAD);
            due(t.home(1), false);
        });
    }

    private static void retractedFreeValuesAreGone() {
        Table t = oneRow(5, 6);
        due(t.edit(0, ADD, 3), 1);
        due(t.update(1, 10, 2, 30), 1);
        due(t.retract(), 1);
        due(t.edit(0, ADD, 4), 1);
        t.dueRow(1, 10, 5, 6, 4);
        due(t.update(1, 10, 2, 40), 1);
        due(t.retract(), 1);
        due(t.edit(0, exchange(0, 1), 0), 1);
        t.dueRow(1, 10, 6, 5);
        due(t.retract(), 1);
        due(t.edit(0, ADD, 5), 1);
        t.dueRow(1, 10, 5, 6, 5);
    }

    private static void retractLeavesRowsAndDraft() {
        Table t = new Table();
        due(t.edit(0, drop(0), 50), 1);
        due(t.edit(1, ADD, 60), 2);
        t.drafts(1, 2, 3);
        due(t.insert(2, 10), 1);
        due(t.retract(), 2);
        due(t.retract(), 1);
        t.dueRow(0, 10, 50, 1);
        due(t.insert(0, 11), 2);
        t.dueRow(0, 11, 1, 2);
    }

    private static void retractOfAnOnly() {
        Table t = oneRow(5, 6);
        due(t.edit(0, only(0), 6), 1);
        due(t.edit(1, shift(1), 1), 2);
        due(t.shown(2, 10), false);
        due(t.retract(), 2);
        due(t.retract(), 1);
        due(t.edit(0, shift(1), 1), 1);
        t.dueRow(1, 10, 5, 7);
        due(t.edit(1, shift(1), 1), 2);
        t.dueRow(2, 10, 5, 8);
    }

    private static void columnsOfEveryWidth() {
        Table t = allWidths();
        due(t.edit(4, shift(4), 1), 5);
        due(t.edit(4, drop(0), 1), 6);
        due(t.edit(1, only(0), 1), 7);
        int[] want = {2, 1, 3, 4, 5, 5, 4, 1};
        for (int v = 0; v < want.length; v++) {
            due(t.columns(v), want[v]);
        }
    }

    private static void columnsOfNoVersion() {
        Table t = new Table();
        for (int v : NO_VERSIONS) {
            due(t.columns(v), BAD);
        }
        for (int v = 1; v <= 7; v++) {
            due(t.columns(v), BAD);
            due(t.edit(v - 1, shift(0), 0), v);
            due(t.columns(v), 2);
        }
        due(t.columns(8), BAD);
        due(t.columns(-1), BAD);
    }

    private static void draftOutside() {
        Table t = fiveColumns(0, 0, 0);
        t.drafts(11, 12, 13, 14, 15);
        for (int c : NO_COLUMNS) {
            due(t.draft(c, 99), false);
        }
        due(t.insert(3, 1), 1);
        t.dueRow(3, 1, 11, 12, 13, 14, 15);
        due(t.insert(0, 2), 2);
        t.dueRow(0, 2, 11, 12);
    }

    private static void draftAllFive() {
        Table t = new Table();
        for (int c = 0; c < 5; c++) {
            due(t.draft(c, MIN + c), true);
            due(t.draft(c, MAX - c), true);
        }
        due(t.edit(0, ADD, 0), 1);
        due(t.edit(1, ADD, 0), 2);
        due(t.edit(2, ADD, 0), 3);
        due(t.insert(3, 1), 1);
        t.dueRow(3, 1, MAX, MAX - 1, MAX - 2, MAX - 3, MAX - 4);
    }

    private static void draftOneColumn() {
        for (int c = 0; c < 5; c++) {
            Table t = fiveColumns(0, 0, 0);
            t.drafts(1, 2, 3, 4, 5);
            due(t.insert(3, 1), 1);
            due(t.draft(c, 99), true);
            t.dueRow(3, 1, 1, 2, 3, 4, 5);
            due(t.insert(3, 2), 2);
            for (int d = 0; d < 5; d++) {
                due(t.value(3, 2, d), d == c ? 99 : d + 1);
            }
        }
    }

    private static void draftStays() {
        Table t = fiveColumns(0, 0, 0);
        t.drafts(1, 2, 3, 4, 5);
        due(t.insert(3, 1), 1);
        due(t.update(3, 1, 0, 99), 1);
        due(t.insert(0, 2), 2);
        due(t.delete(0, 1), 1);
        due(t.insert(3, 3), 2);
        t.dueRow(3, 3, 1, 2, 3, 4, 5);
        t.dueRow(3, 2, 1, 2, 0, 0, 0);
    }

    private static void firstPromises() {
        test("1: 'Version 0 with 2 columns'", VersionsTest::newHasTwoColumns);
        test("1: 'no rows'", VersionsTest::newHasNoRows);
        test("1: 'the draft is all 0'", VersionsTest::newDraftIsZero);
        test("1: a new object beside another one", VersionsTest::newIsOfItsOwn);
        test("3: 'BAD if there is only version 0'", VersionsTest::retractOfVersionZero);
        test("3: 'answers how many are left'", VersionsTest::retractAnswersWhatIsLeft);
        test("3: 'Takes the latest version away'", VersionsTest::retractOfTheLatest);
        test("3: what was taken away is no version", VersionsTest::retractedIsNoVersion);
        test("3: what was taken away has no values", VersionsTest::retractedFreeValuesAreGone);
        test("3: rows and draft stay", VersionsTest::retractLeavesRowsAndDraft);
        test("3: an ONLY that was taken away hides nothing", VersionsTest::retractOfAnOnly);
        test("4: 'The number of columns of a version'", VersionsTest::columnsOfEveryWidth);
        test("4: 'BAD if there is none'", VersionsTest::columnsOfNoVersion);
        test("5: 'c outside 0..4: refused, answers false'", VersionsTest::draftOutside);
        test("5: 'Else true'", VersionsTest::draftAllFive);
        test("5: 'Column c of the draft becomes a number'", VersionsTest::draftOneColumn);
        test("5: no other call changes the draft", VersionsTest::draftStays);
    }

    public static void main(String[] args) {
        firstPromises();
        test("2: 'what = kind + 8 * x + 64 * z'", VersionsTest::editWhat);
        test("2: 'with the number y': the ends of int", VersionsTest::editNumbers);
        test("2: 'free values of the new version get the default'", VersionsTest::editGivesRowsTheDefault);
        test("2: '(those of the parent stay)'", VersionsTest::editLeavesTheParentsFreeValues);
        test("2: 'v is no version: BAD'", VersionsTest::editOfNoVersion);
        test("2: 'what is below 0: BAD'", VersionsTest::editWhatBelowZero);
        test("2: 'what is above 511: BAD'", VersionsTest::editWhatAboveTheGreatest);
        test("2: what 511 is not above 511", VersionsTest::editGreatestWhat);
        test("2: '8 versions are there: FULL'", VersionsTest::editWhenFull);
        test("2: no version, before FULL", VersionsTest::editNoVersionBeforeFull);
        test("2: what below 0 or above 511, before FULL", VersionsTest::editWhatBeforeFull);
        test("2: FULL, before the kind and the columns", VersionsTest::editFullBeforeKindAndColumns);
        test("2: 'kind above 5: BAD'", VersionsTest::editKindAboveFive);
        test("2: 'x no column of v: BAD'", VersionsTest::editNoColumnX);
        test("2: x the last column of v", VersionsTest::editLastColumnX);
        test("2: x '(not in ADD)'", VersionsTest::editAnyXInAdd);
        test("2: 'z no column of v: BAD'", VersionsTest::editNoColumnZ);
        test("2: z the last column of v", VersionsTest::editLastColumnZ);
        test("2: z '(in EXCHANGE and SUM)' alone", VersionsTest::editAnyZElsewhere);
        test("2: 'x = z in SUM: BAD'", VersionsTest::editSumOfOneColumn);
        test("2: 'it would have no column: FULL'", VersionsTest::editNoColumnLeft);
        test("2: one column left is enough", VersionsTest::editTwoColumnsLeft);
        test("2: 'or more than 5: FULL'", VersionsTest::editSixthColumn);
        test("2: a fifth column is not more than 5", VersionsTest::editFourColumns);
        test("2: x no column of v, before no column left", VersionsTest::editColumnsBeforeNoColumnLeft);
        test("2: 'Else answers its number'", VersionsTest::editAnswersItsNumber);
        end();
    }
}
