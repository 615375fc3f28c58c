// The boundary cases that the section 'Terms' and the limit of 512 calls name, each with a test of its own.
public final class TermsTest extends Boundaries {
    private static void versionsUpToEight() {
        Table t = oneRow(30, 40);
        for (int v = 1; v <= 7; v++) {
            due(t.edit(v - 1, shift(0), 1), v);
        }
        for (int v = 0; v <= 7; v++) {
            t.dueRow(v, 10, 30 + v, 40);
        }
        due(t.insert(7, 11), 2);
        t.dueRow(0, 11, 23, 40);
        due(t.edit(7, shift(0), 1), FULL);
        due(t.columns(8), BAD);
        due(t.columns(-1), BAD);
    }

    private static void anyEarlierVersionIsAParent() {
        for (int parent = 0; parent <= 6; parent++) {
            Table t = oneRow(0, 0);
            for (int v = 1; v <= 6; v++) {
                due(t.edit(v - 1, shift(0), 10), v);
            }
            due(t.edit(7, shift(0), 1), BAD);
            due(t.edit(parent, shift(0), 1), 7);
            t.dueRow(7, 10, 10 * parent + 1, 0);
            due(t.update(7, 10, 0, 1000), 1);
            t.dueRow(6, 10, 1000 - 1 - 10 * parent + 60, 0);
        }
    }

    private static void oneColumnIsEnough() {
        Table t = oneColumn();
        t.drafts(5, 6);
        due(t.insert(1, 10), 1);
        t.dueRow(1, 10, 5);
        t.dueRow(0, 10, 0, 5);
        due(t.update(1, 10, 0, 7), 1);
        due(t.update(1, 10, 1, 7), BAD);
        due(t.value(1, 10, 1), 0);
        due(t.sum(1, 0), 7);
        due(t.edit(1, drop(0), 0), FULL);
    }

    private static void fiveColumnsAreTheMost() {
        Table t = fiveColumns(1, 2, 3);
        t.drafts(11, 12, 13, 14, 15);
        due(t.insert(3, 10), 1);
        t.dueRow(3, 10, 11, 12, 13, 14, 15);
        due(t.update(3, 10, 4, 16), 1);
        due(t.value(3, 10, 4), 16);
        due(t.sum(3, 4), 16);
        due(t.update(3, 10, 5, 17), BAD);
        due(t.edit(3, ADD, 0), FULL);
    }

    private static void versionZeroHasTwoColumns() {
        Table t = oneRow(5, 6);
        due(t.columns(0), 2);
        due(t.value(0, 10, 0), 5);
        due(t.value(0, 10, 1), 6);
        due(t.update(0, 10, 2, 9), BAD);
        due(t.update(0, 10, -1, 9), BAD);
    }

    private static void twelveRowsAreTheMost() {
        Table t = twelveRows();
        t.dueKeys(0, 0, 9, 18, 27, 36, 45, 54, 63, 72, 81, 90, 99);
        for (int k = 0; k < 12; k++) {
            t.dueRow(0, 9 * k, 9 * k, 0);
        }
        due(t.insert(0, 50), FULL);
        due(t.count(0), 12);
    }

    private static void everyKey() {
        Table t = new Table();
        for (int key = 0; key <= 99; key++) {
            t.drafts(key + 1000);
            due(t.insert(0, key), 1);
            due(t.value(0, key, 0), key + 1000);
            due(t.delete(0, key), 0);
        }
        due(t.insert(0, -1), BAD);
        due(t.insert(0, 100), BAD);
    }

    private static void keysAreDifferent() {
        Table t = oneRow(5, 6);
        due(t.edit(0, shift(0), 1), 1);
        due(t.edit(0, only(0), 100), 2);
        for (int v = 0; v <= 2; v++) {
            due(t.insert(v, 10), THERE);
        }
        due(t.insert(0, 9), 2);
        due(t.insert(0, 11), 3);
        t.dueKeys(0, 9, 10, 11);
    }

    private static void hiddenRowsHaveValues() {
        Table t = oneRow(5, 6);
        due(t.edit(0, only(0), 5), 1);
        due(t.edit(1, shift(1), 100), 2);
        due(t.edit(2, ADD, 7), 3);
        due(t.edit(3, plus(1, 2), 0), 4);
        due(t.update(3, 10, 2, 70), 1);
        due(t.update(0, 10, 0, 4), 1);
        due(t.update(0, 10, 1, 8), 1);
        for (int v = 1; v <= 4; v++) {
            due(t.shown(v, 10), false);
        }
        due(t.update(0, 10, 0, 9), 1);
        t.dueRow(1, 10, 9, 8);
        t.dueRow(2, 10, 9, 108);
        t.dueRow(3, 10, 9, 108, 70);
        t.dueRow(4, 10, 9, 178, 70);
    }

    private static void valuesAreInts() {
        for (int n : new int[] {MIN, MIN + 1, -1, 0, 1, MAX - 1, MAX}) {
            Table t = oneRow(n, 0);
            due(t.update(0, 10, 1, n), 1);
            due(t.edit(0, ADD, n), 1);
            t.dueRow(1, 10, n, n, n);
            due(t.edit(0, drop(0), n), 2);
            t.drafts(1);
            due(t.insert(2, 11), 2);
            t.dueRow(0, 11, n, 1);
            t.dueRow(1, 11, n, 1, n);
        }
    }

    private static void addIsAtTheEnd() {
        Table t = oneColumn();
        due(t.edit(1, ADD, 20), 2);
        due(t.edit(2, ADD, 30), 3);
        due(t.edit(3, ADD, 40), 4);
        due(t.edit(4, ADD, 50), 5);
        t.drafts(10);
        due(t.insert(1, 1), 1);
        t.dueRow(2, 1, 10, 20);
        t.dueRow(3, 1, 10, 20, 30);
        t.dueRow(4, 1, 10, 20, 30, 40);
        t.dueRow(5, 1, 10, 20, 30, 40, 50);
        t.drafts(11, 12, 13, 14, 15);
        due(t.insert(5, 2), 2);
        t.dueRow(4, 2, 11, 12, 13, 14);
        t.dueRow(1, 2, 11);
    }

    private static void dropMovesUp() {
        for (int x = 0; x < 5; x++) {
            Table t = fiveColumns(0, 0, 0);
            due(t.edit(3, drop(x), 99), 4);
            t.drafts(10, 11, 12, 13, 14);
            due(t.insert(3, 1), 1);
            due(t.insert(4, 2), 2);
            for (int c = 0; c < 4; c++) {
                due(t.value(4, 1, c), c < x ? 10 + c : 11 + c);
                due(t.value(3, 2, c < x ? c : c + 1), 10 + c);
                due(t.value(4, 2, c), 10 + c);
            }
            due(t.value(3, 2, x), 99);
            due(t.columns(4), 4);
        }
    }

    private static void shiftLeavesTheOthers() {
        for (int x = 0; x < 5; x++) {
            Table t = fiveColumns(0, 0, 0);
            due(t.edit(3, shift(x), 1000), 4);
            t.drafts(10, 11, 12, 13, 14);
            due(t.insert(3, 1), 1);
            due(t.insert(4, 2), 2);
            for (int c = 0; c < 5; c++) {
                due(t.value(4, 1, c), c == x ? 1010 + c : 10 + c);
                due(t.value(3, 2, c), c == x ? c - 990 : 10 + c);
                due(t.value(4, 2, c), 10 + c);
            }
        }
    }

    private static void shiftByZero() {
        Table t = oneRow(5, 6);
        due(t.edit(0, shift(1), 0), 1);
        t.dueRow(1, 10, 5, 6);
        due(t.update(1, 10, 1, 7), 1);
        t.dueRow(0, 10, 5, 7);
    }

    private static void onlyKeepsTheValues() {
        Table t = oneRow(5, 6);
        due(t.edit(0, only(1), 6), 1);
        t.dueRow(1, 10, 5, 6);
        due(t.update(1, 10, 1, 60), 1);
        due(t.update(1, 10, 0, -50), 1);
        t.dueRow(0, 10, -50, 60);
    }

    private static void exchangeOfAllPairs() {
        for (int x = 0; x < 5; x++) {
            for (int z = 0; z < 5; z++) {
                Table t = fiveColumns(0, 0, 0);
                due(t.edit(3, exchange(x, z), 99), 4);
                t.drafts(10, 11, 12, 13, 14);
                due(t.insert(3, 1), 1);
                due(t.insert(4, 2), 2);
                for (int c = 0; c < 5; c++) {
                    int from = c == x ? z : c == z ? x : c;
                    due(t.value(4, 1, c), 10 + from);
                    due(t.value(3, 2, c), 10 + from);
                    due(t.value(4, 2, c), 10 + c);
                }
            }
        }
    }

    private static void exchangeOfEqualColumns() {
        Table t = oneRow(5, 6);
        due(t.edit(0, exchange(0, 0), 9), 1);
        due(t.edit(0, exchange(1, 1), 9), 2);
        t.dueRow(1, 10, 5, 6);
        t.dueRow(2, 10, 5, 6);
        due(t.update(1, 10, 0, 50), 1);
        due(t.update(2, 10, 1, 60), 1);
        t.dueRow(0, 10, 50, 60);
    }

    private static void sumOfAllPairs() {
        for (int x = 0; x < 5; x++) {
            for (int z = 0; z < 5; z++) {
                Table t = fiveColumns(0, 0, 0);
                due(t.edit(3, plus(x, z), 99), x == z ? BAD : 4);
                if (x != z) {
                    t.drafts(1, 20, 300, 4000, 50000);
                    int[] drafted = {1, 20, 300, 4000, 50000};
                    due(t.insert(3, 1), 1);
                    due(t.insert(4, 2), 2);
                    for (int c = 0; c < 5; c++) {
                        due(t.value(4, 1, c), c == x ? drafted[x] + drafted[z] : drafted[c]);
                        due(t.value(3, 2, c), c == x ? drafted[x] - drafted[z] : drafted[c]);
                        due(t.value(4, 2, c), drafted[c]);
                    }
                }
            }
        }
    }

    private static void shiftWrapsToTheChild() {
        Table t = oneRow(MAX, MIN);
        due(t.edit(0, shift(0), 1), 1);
        due(t.edit(0, shift(1), -1), 2);
        due(t.edit(0, shift(0), MAX), 3);
        due(t.edit(0, shift(1), MIN), 4);
        t.dueRow(1, 10, MIN, MIN);
        t.dueRow(2, 10, MAX, MAX);
        t.dueRow(3, 10, -2, MIN);
        t.dueRow(4, 10, MAX, 0);
    }

    private static void shiftWrapsToTheParent() {
        Table t = oneRow(0, 0);
        due(t.edit(0, shift(0), 1), 1);
        due(t.edit(0, shift(1), -1), 2);
        due(t.edit(0, shift(0), MIN), 3);
        due(t.update(1, 10, 0, MIN), 1);
        due(t.value(0, 10, 0), MAX);
        due(t.update(2, 10, 1, MAX), 1);
        due(t.value(0, 10, 1), MIN);
        due(t.update(3, 10, 0, 0), 1);
        due(t.value(0, 10, 0), MIN);
        due(t.update(3, 10, 0, 1), 1);
        due(t.value(0, 10, 0), MIN + 1);
    }

    private static void sumWrapsToTheChild() {
        Table t = oneRow(MAX, 1);
        due(t.edit(0, plus(0, 1), 0), 1);
        t.dueRow(1, 10, MIN, 1);
        due(t.update(0, 10, 1, MAX), 1);
        t.dueRow(1, 10, -2, MAX);
        due(t.update(0, 10, 0, MIN), 1);
        due(t.update(0, 10, 1, -1), 1);
        t.dueRow(1, 10, MAX, -1);
        due(t.update(0, 10, 1, MIN), 1);
        t.dueRow(1, 10, 0, MIN);
    }

    private static void sumWrapsToTheParent() {
        Table t = oneRow(0, 0);
        due(t.edit(0, plus(0, 1), 0), 1);
        due(t.update(1, 10, 1, 1), 1);
        due(t.update(1, 10, 0, MIN), 1);
        t.dueRow(0, 10, MAX, 1);
        due(t.update(1, 10, 1, MIN), 1);
        t.dueRow(0, 10, 0, MIN);
        due(t.update(1, 10, 0, 0), 1);
        t.dueRow(0, 10, MIN, MIN);
    }

    // A difference that wrapped must not be taken for the greater of the two numbers.
    private static void onlyDoesNotWrap() {
        Table t = oneRow(MIN, MAX);
        due(t.edit(0, only(0), 1), 1);
        due(t.edit(0, only(1), -1), 2);
        due(t.edit(0, only(0), MAX), 3);
        due(t.edit(0, only(1), MIN), 4);
        boolean[] want = {true, false, true, false, true};
        for (int v = 0; v < want.length; v++) {
            due(t.shown(v, 10), want[v]);
        }
    }

    private static void addIsFreeOfItsParent() {
        Table t = oneRow(5, 6);
        due(t.edit(0, ADD, 7), 1);
        due(t.edit(0, ADD, 8), 2);
        due(t.update(1, 10, 2, 70), 1);
        t.dueRow(0, 10, 5, 6);
        t.dueRow(2, 10, 5, 6, 8);
        due(t.update(0, 10, 0, 50), 1);
        due(t.update(2, 10, 1, 60), 1);
        t.dueRow(1, 10, 50, 60, 70);
        t.dueRow(2, 10, 50, 60, 8);
    }

    private static void dropIsFreeOfItsChild() {
        Table t = oneRow(5, 6);
        due(t.edit(0, drop(0), 70), 1);
        due(t.edit(0, drop(1), 80), 2);
        due(t.update(0, 10, 0, 50), 1);
        t.dueRow(1, 10, 6);
        t.dueRow(2, 10, 50);
        due(t.update(1, 10, 0, 60), 1);
        t.dueRow(0, 10, 50, 60);
        t.dueRow(2, 10, 50);
        due(t.update(2, 10, 0, 51), 1);
        t.dueRow(0, 10, 51, 60);
        t.dueRow(1, 10, 60);
    }

    private static void newRowsGetTheDefault() {
        Table t = new Table();
        due(t.edit(0, drop(0), 70), 1);
        due(t.edit(1, ADD, 80), 2);
        due(t.edit(2, shift(1), 1), 3);
        due(t.edit(0, ADD, 90), 4);
        due(t.edit(4, plus(2, 0), 0), 5);
        t.drafts(5, 6, 7);
        due(t.insert(1, 1), 1);
        t.dueRow(0, 1, 70, 5);
        t.dueRow(2, 1, 5, 80);
        t.dueRow(3, 1, 5, 81);
        t.dueRow(4, 1, 70, 5, 90);
        t.dueRow(5, 1, 70, 5, 160);
        due(t.insert(5, 2), 2);
        t.dueRow(4, 2, 5, 6, 2);
        t.dueRow(0, 2, 5, 6);
        t.dueRow(1, 2, 6);
        t.dueRow(2, 2, 6, 80);
        t.dueRow(3, 2, 6, 81);
    }

    private static void freeValuesStay() {
        Table t = new Table();
        due(t.edit(0, drop(0), 70), 1);
        due(t.edit(1, ADD, 80), 2);
        due(t.edit(0, ADD, 90), 3);
        t.drafts(5, 6);
        due(t.insert(0, 1), 1);
        due(t.update(2, 1, 1, 8), 1);
        due(t.update(3, 1, 2, 9), 1);
        due(t.update(1, 1, 0, 60), 1);
        t.dueRow(0, 1, 5, 60);
        t.dueRow(2, 1, 60, 8);
        t.dueRow(3, 1, 5, 60, 9);
        due(t.update(2, 1, 0, 61), 1);
        t.dueRow(3, 1, 5, 61, 9);
        due(t.update(3, 1, 1, 62), 1);
        t.dueRow(2, 1, 62, 8);
        t.dueRow(0, 1, 5, 62);
    }

    private static void atLeastY() {
        for (int y : new int[] {MIN + 1, -5, -1, 0, 1, 5, MAX - 1}) {
            Table t = oneRow(y - 1, y);
            due(t.edit(0, only(0), y), 1);
            due(t.edit(0, only(1), y), 2);
            due(t.shown(1, 10), false);
            due(t.shown(2, 10), true);
            due(t.update(0, 10, 0, y), 1);
            due(t.update(0, 10, 1, y - 1), 1);
            due(t.shown(1, 10), true);
            due(t.shown(2, 10), false);
            due(t.update(0, 10, 1, y + 1), 1);
            due(t.shown(2, 10), true);
        }
    }

    private static void atLeastTheEndsOfInt() {
        Table t = oneRow(MIN, MAX);
        due(t.edit(0, only(0), MIN), 1);
        due(t.edit(0, only(1), MAX), 2);
        due(t.edit(0, only(0), MIN + 1), 3);
        due(t.shown(1, 10), true);
        due(t.shown(2, 10), true);
        due(t.shown(3, 10), false);
        due(t.update(0, 10, 1, MAX - 1), 1);
        due(t.shown(2, 10), false);
    }

    private static void everyVersionItComesFrom() {
        for (int hiding = 1; hiding <= 7; hiding++) {
            Table t = oneRow(0, 0);
            for (int v = 1; v <= 7; v++) {
                due(t.edit(v - 1, only(0), v == hiding ? 1 : 0), v);
            }
            for (int v = 0; v <= 7; v++) {
                due(t.shown(v, 10), v < hiding);
                due(t.count(v), v < hiding ? 1 : 0);
            }
        }
    }

    private static void noOtherVersion() {
        Table t = oneRow(0, 0);
        due(t.edit(0, shift(1), 5), 1);
        due(t.edit(1, only(0), 1), 2);
        due(t.edit(1, shift(1), 5), 3);
        due(t.edit(0, only(1), 1), 4);
        due(t.edit(3, only(1), 1), 5);
        boolean[] want = {true, true, false, true, false, true};
        for (int v = 0; v < want.length; v++) {
            due(t.shown(v, 10), want[v]);
        }
    }

    private static void theValueThere() {
        Table t = oneRow(5, 6);
        due(t.edit(0, shift(0), 100), 1);
        due(t.edit(1, only(0), 105), 2);
        due(t.edit(2, shift(0), -1000), 3);
        due(t.edit(3, exchange(0, 1), 0), 4);
        due(t.edit(4, drop(1), 0), 5);
        for (int v = 0; v <= 5; v++) {
            due(t.shown(v, 10), true);
        }
        due(t.update(0, 10, 0, 4), 1);
        for (int v = 0; v <= 5; v++) {
            due(t.shown(v, 10), v < 2);
        }
    }

    /** A tree of eight versions with every kind of edit; nothing of it is hidden. */
    private static Table tree() {
        Table t = new Table();
        due(t.edit(0, shift(0), 10), 1);
        due(t.edit(1, exchange(0, 1), 0), 2);
        due(t.edit(2, drop(0), 3), 3);
        due(t.edit(1, plus(0, 1), 0), 4);
        due(t.edit(4, ADD, 7), 5);
        due(t.edit(0, only(0), MIN), 6);
        due(t.edit(6, drop(1), 20), 7);
        return t;
    }

    private static void dueTree(Table t, int first, int second, int added) {
        t.dueRow(0, 1, first, second);
        t.dueRow(1, 1, first + 10, second);
        t.dueRow(2, 1, second, first + 10);
        t.dueRow(3, 1, first + 10);
        t.dueRow(4, 1, first + 10 + second, second);
        t.dueRow(5, 1, first + 10 + second, second, added);
        t.dueRow(6, 1, first, second);
        t.dueRow(7, 1, first);
    }

    private static void insertThroughEveryVersion() {
        int[] firsts = {100, 90, 190, 90, -110, -110, 100, 100};
        int[] seconds = {200, 200, 100, 3, 200, 200, 200, 20};
        for (int v = 0; v <= 7; v++) {
            Table t = tree();
            t.drafts(100, 200, 300);
            due(t.insert(v, 1), 1);
            dueTree(t, firsts[v], seconds[v], v == 5 ? 300 : 7);
        }
    }

    private static void updateThroughEveryVersion() {
        int[] firsts = {100, 90, 1, 90, 88, 88, 100, 100};
        int[] seconds = {2, 2, 100, 2, 2, 2, 2, 2};
        for (int v = 0; v <= 7; v++) {
            Table t = tree();
            t.drafts(1, 2);
            due(t.insert(0, 1), 1);
            due(t.update(5, 1, 2, 70), 1);
            due(t.update(v, 1, 0, 100), 1);
            dueTree(t, firsts[v], seconds[v], 70);
        }
    }

    private static void lastCallOfChanges() {
        Table t = new Table();
        for (int i = 0; i < 127; i++) {
            t.drafts(i);
            due(t.insert(0, i % 100), 1);
            due(t.update(0, i % 100, 1, -i), 1);
            due(t.delete(0, i % 100), 0);
        }
        due(t.insert(0, 3), 1);
        due(t.edit(0, shift(0), 1), 1);
        due(t.value(1, 3, 0), 127);
        due(t.retract(), 1);
        due(t.calls(), CALLS);
    }

    private static void lastCallOfEdits() {
        Table t = oneRow(5, 6);
        for (int i = 0; i < 254; i++) {
            due(t.edit(0, ADD, i), 1);
            due(t.retract(), 1);
        }
        due(t.value(0, 10, 1), 6);
        due(t.calls(), CALLS);
    }

    private static void lastCallOfUpdates() {
        Table t = oneRow(5, 6);
        due(t.edit(0, ADD, 7), 1);
        for (int i = 0; i < 507; i++) {
            due(t.update(1, 10, (i + 1) % 3, i), 1);
        }
        due(t.sum(0, 0), 506);
        due(t.calls(), CALLS);
    }

    private static void lastCallOfRefusals() {
        Table t = twelveRows();
        while (t.calls() < CALLS - 1) {
            due(t.insert(0, 50), FULL);
        }
        due(t.count(0), 12);
        due(t.calls(), CALLS);
    }

    public static void main(String[] args) {
        test("'An object is used for at most 512 calls': rows", TermsTest::lastCallOfChanges);
        test("'An object is used for at most 512 calls': versions", TermsTest::lastCallOfEdits);
        test("'An object is used for at most 512 calls': updates", TermsTest::lastCallOfUpdates);
        test("'An object is used for at most 512 calls': refusals", TermsTest::lastCallOfRefusals);
        test("'up to 8 VERSIONS, numbered from 0'", TermsTest::versionsUpToEight);
        test("'every one but version 0 has a PARENT, an earlier version'", TermsTest::anyEarlierVersionIsAParent);
        test("'1 to 5 COLUMNS, numbered from 0': 1", TermsTest::oneColumnIsEnough);
        test("'1 to 5 COLUMNS, numbered from 0': 5", TermsTest::fiveColumnsAreTheMost);
        test("'version 0 has 2'", TermsTest::versionZeroHasTwoColumns);
        test("'up to 12 ROWS'", TermsTest::twelveRowsAreTheMost);
        test("'a KEY from 0 to 99'", TermsTest::everyKey);
        test("'all different'", TermsTest::keysAreDifferent);
        test("'in every version, whether it is shown there or not, a VALUE'", TermsTest::hiddenRowsHaveValues);
        test("'a VALUE, an int'", TermsTest::valuesAreInts);
        test("'ADD: one column more, at the end'", TermsTest::addIsAtTheEnd);
        test("'DROP x: those behind it have moved up by one'", TermsTest::dropMovesUp);
        test("'SHIFT x by y: the others are the same'", TermsTest::shiftLeavesTheOthers);
        test("'SHIFT x by y': 0", TermsTest::shiftByZero);
        test("'ONLY x, y: all values are the same'", TermsTest::onlyKeepsTheValues);
        test("'EXCHANGE x, z: columns x and z are exchanged'", TermsTest::exchangeOfAllPairs);
        test("'EXCHANGE x, z: (they may be equal)'", TermsTest::exchangeOfEqualColumns);
        test("'SUM x, z: (x and z differ)'", TermsTest::sumOfAllPairs);
        test("'arithmetic wraps as in Java': SHIFT, to the child", TermsTest::shiftWrapsToTheChild);
        test("'arithmetic wraps as in Java': SHIFT, to the parent", TermsTest::shiftWrapsToTheParent);
        test("'arithmetic wraps as in Java': SUM, to the child", TermsTest::sumWrapsToTheChild);
        test("'arithmetic wraps as in Java': SUM, to the parent", TermsTest::sumWrapsToTheParent);
        test("'is at least y' of numbers far apart", TermsTest::onlyDoesNotWrap);
        test("'The last column of an ADD is FREE'", TermsTest::addIsFreeOfItsParent);
        test("'column x of the parent of a DROP is FREE'", TermsTest::dropIsFreeOfItsChild);
        test("'when the row is new these get the default'", TermsTest::newRowsGetTheDefault);
        test("'when it was there they stay as they were'", TermsTest::freeValuesStay);
        test("'is at least y': below, equal, above", TermsTest::atLeastY);
        test("'is at least y': the ends of int", TermsTest::atLeastTheEndsOfInt);
        test("'for that one and every version from which it comes'", TermsTest::everyVersionItComesFrom);
        test("'for that one and every version from which it comes': no other", TermsTest::noOtherVersion);
        test("'the row's value there in column x'", TermsTest::theValueThere);
        test("'follow from version to version': a new row", TermsTest::insertThroughEveryVersion);
        test("'follow from version to version': a row that was there", TermsTest::updateThroughEveryVersion);
        end();
    }
}
