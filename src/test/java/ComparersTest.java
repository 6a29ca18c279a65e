/** Promises 20 to 25 and 39 to 42: wires held against one another in pairs, and how they are told. */
public final class ComparersTest {
    private static final int UNKNOWN = -1, OUTSIDE = -2, STATE = -3, FULL = -4, NONE = -9;
    private static final int NULL = -11, CAST = -12, INDEX = -13;
    private static final int LEAST = Integer.MIN_VALUE, MOST = Integer.MAX_VALUE;
    private static final Due DUE = new Due("ComparersTest");

    public static void main(String[] args) {
        wires();
        compare();
        compareUpToThirty();
        back();
        sorterOfFour();
        sorterOfAllWidths();
        idleOnes();
        comparer();
        sort();
        sortRefused();
        tellAndTrace();
        traceWraps();
        show();
        as();
        DUE.end();
    }

    private static void due(String call, long got, long want) {
        DUE.due(call, got, want);
    }

    private static CallStages compared(int w, int... pairs) {
        CallStages x = new CallStages();
        x.wires(w);
        for (int i = 0; i < pairs.length; i += 2) due("compare", x.compare(pairs[i], pairs[i + 1]), i / 2);
        return x;
    }

    private static void wires() {
        CallStages x = new CallStages();
        x.compare(0, 3);
        x.compare(1, 2);
        for (int wrong : new int[] {1, 9, 0, -1, LEAST, MOST}) due("wires(" + wrong + ")", x.wires(wrong), OUTSIDE);
        due("nothing is changed: many(1)", x.many(1), 2);
        due("nothing is changed: many(2)", x.many(2), 4);
        due("wires(8)", x.wires(8), 2);
        due("many(1)", x.many(1), 0);
        due("many(2)", x.many(2), 8);
        due("compare(7, 0)", x.compare(7, 0), 0);
        due("wires(8) again", x.wires(8), 1);
        due("wires(2)", x.wires(2), 0);
        due("compare(0, 2)", x.compare(0, 2), UNKNOWN);
        due("compare(0, 1)", x.compare(0, 1), 0);
        due("sorter(2)", x.sorter(2), 1);
    }

    private static void compare() {
        CallStages x = new CallStages();
        int[][] wrong = {{-1, 0}, {0, -1}, {4, 0}, {0, 4}, {4, 4}, {-1, -1}, {LEAST, MOST}};
        for (int[] w : wrong) due("compare(" + w[0] + ", " + w[1] + ")", x.compare(w[0], w[1]), UNKNOWN);
        due("compare(2, 2)", x.compare(2, 2), OUTSIDE);
        due("nothing is changed", x.many(1), 0);
        due("compare(3, 1)", x.compare(3, 1), 0);
        due("compare(3, 1) again", x.compare(3, 1), 1);
        due("many(1)", x.many(1), 2);
    }

    private static void compareUpToThirty() {
        CallStages x = new CallStages();
        for (int c = 0; c < 30; c++) due("compare " + c, x.compare(c % 3, 3), c);
        due("compare(0, 1)", x.compare(0, 1), FULL);
        due("compare(0, 0), OUTSIDE first", x.compare(0, 0), OUTSIDE);
        due("compare(0, 4), UNKNOWN first", x.compare(0, 4), UNKNOWN);
        due("sorter(0)", x.sorter(0), 30);
        due("sorter(1)", x.sorter(1), 30);
        due("comparer(29, 2)", x.comparer(29, 2), 29);
        due("back()", x.back(), 29);
        due("compare(1, 0)", x.compare(1, 0), 29);
        due("comparer(29, 0)", x.comparer(29, 0), 1);
        due("comparer(30, 0)", x.comparer(30, 0), UNKNOWN);
    }

    private static void back() {
        CallStages x = new CallStages();
        due("none: back()", x.back(), STATE);
        x.compare(0, 1);
        x.compare(0, 2);
        x.compare(1, 3);
        due("sorter(1)", x.sorter(1), 2);
        due("back()", x.back(), 2);
        due("back()", x.back(), 1);
        due("sorter(1)", x.sorter(1), 1);
        due("comparer(0, 1)", x.comparer(0, 1), 1);
        due("comparer(1, 1)", x.comparer(1, 1), UNKNOWN);
        due("back()", x.back(), 0);
        due("sorter(4)", x.sorter(4), 5);
        due("back()", x.back(), STATE);
    }

    private static void dueSorter(String what, CallStages x, int... all) {
        for (int i = 0; i < all.length; i++) due(what + ": sorter(" + i + ")", x.sorter(i), all[i]);
    }

    private static void sorterOfFour() {
        CallStages x = new CallStages();
        dueSorter("none", x, 0, 0, 0, 1, 5, 0);
        x.compare(0, 1);
        x.compare(2, 3);
        dueSorter("two at once", x, 2, 1, 0, 1, 7, 0);
        x.compare(0, 2);
        x.compare(1, 3);
        dueSorter("four in two steps", x, 4, 2, 0, 5, 12, 0);
        x.compare(1, 2);
        dueSorter("five in three steps", x, 5, 3, 1, NONE, 16, 0);
        x.compare(0, 1);
        dueSorter("one is idle", x, 6, 4, 1, NONE, 16, 1);
        x.compare(3, 0);
        dueSorter("turned round at the end", x, 7, 5, 0, 1, 2, 1);
        for (int wrong : new int[] {-1, 6, LEAST, MOST}) due("sorter(" + wrong + ")", x.sorter(wrong), OUTSIDE);
    }

    /** Neighbours by turns, in as many steps as there are wires (two need one): it sorts just with the last step. */
    private static void sorterOfAllWidths() {
        for (int w = 2; w <= 8; w++) {
            CallStages x = new CallStages();
            x.wires(w);
            int count = 0;
            int steps = w == 2 ? 1 : w;
            for (int step = 0; step < steps; step++) {
                due("of " + w + ", step " + step + ": sorter(2)", x.sorter(2), 0);
                for (int a = step % 2; a + 1 < w; a += 2) {
                    x.compare(a, a + 1);
                    count++;
                }
            }
            dueSorter("of " + w, x, count, steps, 1, NONE, 1 << w, 0);
        }
    }

    private static void idleOnes() {
        CallStages x = compared(3, 0, 1, 0, 1, 1, 0, 1, 0, 0, 2);
        int[] idle = {0, 1, 0, 1, 0};
        for (int c = 0; c < 5; c++) due("comparer(" + c + ", 3)", x.comparer(c, 3), idle[c]);
        due("sorter(5)", x.sorter(5), 2);
        x = compared(8, 6, 7, 7, 6, 0, 7, 6, 7);
        due("of 8: sorter(5)", x.sorter(5), 0);
        due("of 8: sorter(3)", x.sorter(3), 2);
        x = compared(7, 5, 6, 4, 6, 5, 6, 4, 5);
        due("of 7, the greatest is there: comparer(2, 3)", x.comparer(2, 3), 1);
        due("of 7, the other two are not: comparer(3, 3)", x.comparer(3, 3), 0);
    }

    private static void comparer() {
        CallStages x = compared(5, 0, 1, 3, 4, 1, 3, 2, 0, 4, 3, 0, 4);
        int[][] all = {{0, 1, 0, 0, 0}, {3, 4, 0, 0, 0}, {1, 3, 1, 0, 1}, {2, 0, 1, 0, 2}, {4, 3, 2, 0, 2}, {0, 4, 3, 0, 1}};
        for (int c = 0; c < all.length; c++) {
            for (int what = 0; what < 5; what++) {
                due("comparer(" + c + ", " + what + ")", x.comparer(c, what), all[c][what]);
            }
        }
        due("sorter(1)", x.sorter(1), 4);
        for (int wrong : new int[] {-1, 6, 30, LEAST, MOST}) due("comparer(" + wrong + ", 9)", x.comparer(wrong, 9), UNKNOWN);
        for (int wrong : new int[] {-1, 5, LEAST, MOST}) due("comparer(0, " + wrong + ")", x.comparer(0, wrong), OUTSIDE);
    }

    private static void lay(CallStages x, int sheet, int lane, int... cells) {
        x.sheet(sheet, lane, cells.length);
        for (int i = 0; i < cells.length; i++) x.put(sheet, i, cells[i]);
    }

    private static void dueCells(String what, CallStages x, int sheet, int lane, int... cells) {
        for (int i = 0; i < cells.length; i++) due(what + ": cell " + i, x.cell(sheet, i, lane), cells[i]);
    }

    private static void sort() {
        CallStages x = compared(4, 0, 1, 2, 3, 0, 2, 1, 3, 1, 2);
        lay(x, 1, 2, 9, MOST, 0, LEAST, -7, 9);
        due("sort(1, 2, 1)", x.sort(1, 2, 1), 4);
        dueCells("sorted", x, 1, 2, 9, LEAST, -7, 0, MOST, 9);
        due("sort(1, 2, 1) again", x.sort(1, 2, 1), 0);
        due("sort(1, 2, 2)", x.sort(1, 2, 2), 2);
        dueCells("the last ones", x, 1, 2, 9, LEAST, -7, 0, 9, MOST);
        due("sort(1, 2, 0)", x.sort(1, 2, 0), 4);
        lay(x, 0, 0, 127, -128, 200, 5);
        due("bytes: sort(0, 0, 0)", x.sort(0, 0, 0), 4);
        dueCells("bytes", x, 0, 0, -128, -56, 5, 127);
        lay(x, 3, 1, 3, 40000, 3, 1);
        due("shorts: sort(3, 1, 0)", x.sort(3, 1, 0), 3);
        dueCells("shorts", x, 3, 1, -25536, 1, 3, 3);
        x = compared(3, 2, 0);
        lay(x, 0, 0, 1, 9, 2);
        due("turned: sort(0, 0, 0)", x.sort(0, 0, 0), 2);
        dueCells("turned", x, 0, 0, 2, 9, 1);
        x.wires(3);
        due("without comparers: sort(0, 0, 0)", x.sort(0, 0, 0), 0);
    }

    private static void sortRefused() {
        CallStages x = compared(2, 1, 0);
        lay(x, 0, 1, 1, 2, 3);
        due("sort(-1, 7, 0), UNKNOWN first", x.sort(-1, 7, 0), UNKNOWN);
        due("sort(4, 1, 0)", x.sort(4, 1, 0), UNKNOWN);
        for (int wrong : new int[] {-1, 3, LEAST, MOST}) due("sort(0, " + wrong + ", 9)", x.sort(0, wrong, 9), OUTSIDE);
        due("sort(0, 0, 9), CAST ahead of INDEX", x.sort(0, 0, 9), CAST);
        due("fault()", x.fault(), 2);
        due("sort(0, 4, 0)", x.sort(0, 4, 0), OUTSIDE);
        due("refused: fault()", x.fault(), 0);
        due("sort(0, 2, 0)", x.sort(0, 2, 0), CAST);
        due("sort(1, 0, -1), NULL", x.sort(1, 0, -1), NULL);
        due("fault()", x.fault(), 1);
        for (int wrong : new int[] {-1, 2, 3, LEAST, MOST}) due("sort(0, 1, " + wrong + ")", x.sort(0, 1, wrong), INDEX);
        due("fault()", x.fault(), 3);
        dueCells("nothing is changed", x, 0, 1, 1, 2, 3);
        due("sort(0, 1, 1)", x.sort(0, 1, 1), 2);
        due("fault()", x.fault(), 0);
        x.sort(5, 0, 0);
        due("refused: fault()", x.fault(), 0);
    }

    private static void tellAndTrace() {
        CallStages x = compared(6, 2, 3, 1, 5, 5, 1, 3, 2);
        due("PLAIN: tell(0)", x.tell(0), 2);
        due("trace()", x.trace(), 1);
        due("LONG: tell(1)", x.tell(1), 6);
        due("trace()", x.trace(), (1 * 31 + 2) * 31 + 1);
        x = compared(6, 2, 3, 1, 5, 5, 1, 3, 2);
        due("TURNED: tell(2)", x.tell(2), 11);
        due("trace()", x.trace(), ((3 * 31 + 2) * 31 + 1) * 31 + 1);
        x = compared(6, 2, 3, 1, 5, 5, 1, 3, 2);
        due("TURNED, neighbours: tell(3)", x.tell(3), 8);
        due("trace()", x.trace(), ((3 * 31 + 2) * 31 + 1) * 31 + 1);
        for (int wrong : new int[] {-1, 4, 30, LEAST, MOST}) due("tell(" + wrong + ")", x.tell(wrong), UNKNOWN);
        due("refused: trace()", x.trace(), ((3 * 31 + 2) * 31 + 1) * 31 + 1);
    }

    private static void traceWraps() {
        CallStages x = compared(2, 0, 1);
        int trace = 0;
        for (int time = 0; time < 40; time++) {
            x.tell(0);
            trace = 31 * trace + 1;
            due("trace()", x.trace(), trace);
        }
        x.wires(5);
        due("behind wires(): trace()", x.trace(), trace);
    }

    private static void show() {
        CallStages x = compared(6, 2, 3, 1, 5, 5, 1, 3, 2);
        due("PLAIN: show(0)", x.show(0), 0);
        due("trace()", x.trace(), 4);
        due("LONG: show(1)", x.show(1), 1);
        due("trace()", x.trace(), 4 * 31 + 4);
        due("TURNED: show(2)", x.show(2), 30);
        due("trace()", x.trace(), (4 * 31 + 4) * 31 + 5);
        due("TURNED, neighbours: show(3)", x.show(3), 30);
        for (int wrong : new int[] {-1, 4, 30, LEAST, MOST}) due("show(" + wrong + ")", x.show(wrong), UNKNOWN);
        due("refused: trace()", x.trace(), ((4 * 31 + 4) * 31 + 5) * 31 + 5);
    }

    private static void as() {
        CallStages x = compared(6, 2, 3, 1, 5, 5, 1, 3, 2);
        int[][] all = {{1, CAST, CAST}, {1, 1, CAST}, {1, 1, 1}, {1, 1, 1}};
        for (int c = 0; c < all.length; c++) {
            for (int kind = 0; kind < 3; kind++) {
                due("as(" + c + ", " + kind + ")", x.as(c, kind), all[c][kind]);
                due("fault()", x.fault(), all[c][kind] == CAST ? 2 : 0);
            }
        }
        x.as(0, 1);
        due("as(4, 9), UNKNOWN first", x.as(4, 9), UNKNOWN);
        due("refused: fault()", x.fault(), 0);
        due("as(-1, 0)", x.as(-1, 0), UNKNOWN);
        x.as(0, 1);
        for (int wrong : new int[] {-1, 3, LEAST, MOST}) due("as(0, " + wrong + ")", x.as(0, wrong), OUTSIDE);
        due("refused: fault()", x.fault(), 0);
        due("trace()", x.trace(), 0);
    }
}
