/** Wires and comparers: each sentence of the document that names an edge has a test of its own here. */
public final class EdgesOfComparersTest {
    private static final int UNKNOWN = -1, OUTSIDE = -2, STATE = -3, FULL = -4, NONE = -9;
    private static final int CAST = -12;
    private static final int LEAST = Integer.MIN_VALUE, MOST = Integer.MAX_VALUE;
    /** Sorts eight. */
    private static final int[] EIGHT = {0, 1, 2, 3, 4, 5, 6, 7, 0, 2, 1, 3, 4, 6, 5, 7, 1, 2, 5, 6, 0, 4, 1, 5, 2, 6, 3, 7,
        2, 4, 3, 5, 1, 2, 3, 4, 5, 6};
    /** Sorts all rows of eight but 251. */
    private static final int[] ALL_BUT_ONE = {0, 1, 1, 2, 2, 3, 4, 5, 6, 7, 0, 2, 4, 6, 5, 7, 1, 2, 5, 6, 0, 4, 1, 5, 2, 6,
        4, 5, 3, 7, 2, 4, 3, 5, 1, 2, 3, 4, 5, 6};
    private static final Due DUE = new Due("EdgesOfComparersTest");

    public static void main(String[] args) {
        howManyWires();
        howManyComparers();
        lesserAndGreater();
        depth();
        itSorts();
        allRowsComeOut();
        theFirstThatDoesNot();
        idle();
        wires();
        compare();
        back();
        sorter();
        comparer();
        kinds();
        sort();
        sortRefused();
        sortFaults();
        tellingAndTrace();
        shown();
        tellAndShowRefused();
        as();
        DUE.end();
    }

    private static void says(String where, String words) {
        DUE.says(where, words);
    }

    private static void due(String call, long got, long want) {
        DUE.due(call, got, want);
    }

    private static CallStages compared(int w, int... pairs) {
        CallStages x = new CallStages();
        x.wires(w);
        for (int i = 0; i < pairs.length; i += 2) due("compare", x.compare(pairs[i], pairs[i + 1]), i / 2);
        return x;
    }

    private static void lay(CallStages x, int sheet, int lane, int... cells) {
        x.sheet(sheet, lane, cells.length);
        for (int i = 0; i < cells.length; i++) x.put(sheet, i, cells[i]);
    }

    private static void dueCells(String what, CallStages x, int sheet, int lane, int... cells) {
        for (int i = 0; i < cells.length; i++) due(what + ": cell " + i, x.cell(sheet, i, lane), cells[i]);
    }

    private static void howManyWires() {
        says("Terms 3", "WIRES (2 .. 8; 4 at first)");
        CallStages x = new CallStages();
        due("at first: many(2)", x.many(2), 4);
        due("at first: compare(3, 0)", x.compare(3, 0), 0);
        due("at first: compare(4, 0)", x.compare(4, 0), UNKNOWN);
        due("wires(1)", x.wires(1), OUTSIDE);
        due("wires(9)", x.wires(9), OUTSIDE);
        due("wires(2)", x.wires(2), 1);
        due("of two: compare(0, 1)", x.compare(0, 1), 0);
        due("of two: compare(0, 2)", x.compare(0, 2), UNKNOWN);
        due("wires(8)", x.wires(8), 1);
        due("of eight: compare(7, 6)", x.compare(7, 6), 0);
        due("of eight: compare(8, 6)", x.compare(8, 6), UNKNOWN);
    }

    private static void howManyComparers() {
        says("Terms 3", "COMPARERS, 30 at most, numbered as they come");
        for (int w = 2; w <= 8; w += 3) {
            CallStages x = new CallStages();
            x.wires(w);
            for (int c = 0; c < 30; c++) due("compare " + c, x.compare(c % 2, 1 - c % 2), c);
            due("one more", x.compare(0, 1), FULL);
            due("many(1)", x.many(1), 30);
            for (int c = 0; c < 30; c++) due("comparer(" + c + ", 0)", x.comparer(c, 0), c % 2);
            due("comparer(30, 0)", x.comparer(30, 0), UNKNOWN);
        }
    }

    private static void lesserAndGreater() {
        says("Terms 3", "the lesser number goes out on a, the greater one on b");
        int[][] rows = {{1, 2}, {2, 1}, {5, 5}, {LEAST, MOST}, {MOST, LEAST}, {-1, 0}, {0, -1}};
        for (int[] row : rows) {
            int low = Math.min(row[0], row[1]);
            int high = Math.max(row[0], row[1]);
            CallStages x = compared(2, 0, 1);
            lay(x, 0, 2, row);
            due("a 0, b 1: sort", x.sort(0, 2, 0), low == row[0] ? 0 : 2);
            dueCells("a 0, b 1", x, 0, 2, low, high);
            x = compared(2, 1, 0);
            lay(x, 0, 2, row);
            due("a 1, b 0: sort", x.sort(0, 2, 0), high == row[0] ? 0 : 2);
            dueCells("a 1, b 0", x, 0, 2, high, low);
        }
    }

    private static void depth() {
        says("Terms 3", "DEPTH: in how few steps all can be done, one behind the other on a wire");
        due("none", new CallStages().sorter(1), 0);
        due("one", compared(4, 0, 1).sorter(1), 1);
        due("two on other wires", compared(4, 0, 1, 2, 3).sorter(1), 1);
        due("two on one wire", compared(4, 0, 1, 1, 2).sorter(1), 2);
        due("the same one again", compared(4, 0, 1, 1, 0).sorter(1), 2);
        due("the third waits for the second alone", compared(6, 0, 1, 1, 2, 4, 5, 3, 4).sorter(1), 2);
        due("across, not over", compared(4, 0, 3, 1, 2).sorter(1), 1);
        due("the 19 of eight", compared(8, EIGHT).sorter(1), 6);
        CallStages x = compared(4, 2, 3, 0, 1, 1, 2, 2, 3);
        int[] steps = {0, 0, 1, 2};
        for (int c = 0; c < 4; c++) due("comparer(" + c + ", 2)", x.comparer(c, 2), steps[c]);
    }

    private static void itSorts() {
        says("Terms 3", "IT SORTS, if each row comes out not falling by wires");
        due("none, two wires", compared(2).sorter(2), 0);
        due("one, two wires", compared(2, 0, 1).sorter(2), 1);
        due("falling by wires", compared(2, 1, 0).sorter(2), 0);
        due("two of three", compared(3, 0, 1, 1, 2).sorter(2), 0);
        due("three of three", compared(3, 0, 1, 1, 2, 0, 1).sorter(2), 1);
        due("the 19 of eight", compared(8, EIGHT).sorter(2), 1);
        due("all rows but one", compared(8, ALL_BUT_ONE).sorter(2), 0);
        due("all rows but one: sorter(4)", compared(8, ALL_BUT_ONE).sorter(4), 255);
    }

    private static void allRowsComeOut() {
        says("Terms 3", "it does just if each row of 0 and 1 does");
        for (int number = 0; number < 256; number++) {
            CallStages x = compared(4, 0, 1, 2, 3, 0, 2, 1, 3, 1, 2);
            lay(x, 0, 2, 7 * (number & 3), 7 * (number >> 2 & 3), 7 * (number >> 4 & 3), 7 * (number >> 6));
            x.sort(0, 2, 0);
            for (int i = 0; i < 3; i++) due("not falling", x.cell(0, i, 2) <= x.cell(0, i + 1, 2) ? 1 : 0, 1);
        }
    }

    /** The rows of 0 and 1 one by one: the first that comes out falling, and how many do not. */
    private static int[] tried(int w, int[] pairs) {
        int first = NONE;
        int sorted = 0;
        for (int row = 0; row < 1 << w; row++) {
            int[] cells = new int[w];
            for (int wire = 0; wire < w; wire++) cells[wire] = row >> wire & 1;
            for (int at = 0; at < pairs.length; at += 2) {
                int low = Math.min(cells[pairs[at]], cells[pairs[at + 1]]);
                cells[pairs[at + 1]] += cells[pairs[at]] - low;
                cells[pairs[at]] = low;
            }
            boolean falls = false;
            for (int wire = 1; wire < w; wire++) falls |= cells[wire - 1] > cells[wire];
            if (falls && first == NONE) first = row;
            if (!falls) sorted++;
        }
        return new int[] {first, sorted};
    }

    private static int[] without(int[] pairs, int c) {
        int[] left = new int[pairs.length - 2];
        System.arraycopy(pairs, 0, left, 0, 2 * c);
        System.arraycopy(pairs, 2 * c + 2, left, 2 * c, left.length - 2 * c);
        return left;
    }

    private static void theFirstThatDoesNot() {
        says("Terms 3", "the FIRST that does not, as a number (bit k for wire k)");
        for (int w = 2; w <= 8; w++) due("none, of " + w, compared(w).sorter(3), 1);
        due("it sorts: sorter(3)", compared(2, 0, 1).sorter(3), NONE);
        due("turned round: 0, and 1 on wire 1, come out falling", compared(2, 1, 0).sorter(3), 1);
        due("1 on wire 2 alone stays there, 1 on wire 1 goes to 2", compared(3, 1, 2).sorter(3), 1);
        due("1 on wires 0 and 2", compared(4, 0, 1, 2, 3, 0, 2, 1, 3).sorter(3), 5);
        due("all but 251", compared(8, ALL_BUT_ONE).sorter(3), 251);
        int[] firsts = {1, 4, 16, 64, 3, 1, 48, 16, 21, 81, 15, 7, 3, 1, 51, 17, 119, 23, 17};
        for (int c = 0; c < 19; c++) {
            CallStages x = compared(8, without(EIGHT, c));
            due("without comparer " + c + ": sorter(3)", x.sorter(3), firsts[c]);
            due("without comparer " + c + ": sorter(3), as tried", x.sorter(3), tried(8, without(EIGHT, c))[0]);
        }
        says("Promise 23", "4 how many rows of 0 and 1 do");
        for (int w = 2; w <= 8; w++) due("none, of " + w, compared(w).sorter(4), w + 1);
        due("it sorts: sorter(4)", compared(8, EIGHT).sorter(4), 256);
        for (int c = 0; c < 19; c++) {
            due("without comparer " + c + ": sorter(4)", compared(8, without(EIGHT, c)).sorter(4), tried(8, without(EIGHT, c))[1]);
        }
    }

    private static void idle() {
        says("Terms 3", "IDLE: a COMPARER that changes no row of 0 and 1 (as it comes to it)");
        CallStages x = compared(4, 0, 1, 0, 1, 1, 0, 1, 0, 0, 1, 2, 3);
        int[] idle = {0, 1, 0, 1, 0, 0};
        for (int c = 0; c < 6; c++) due("comparer(" + c + ", 3)", x.comparer(c, 3), idle[c]);
        due("sorter(5)", x.sorter(5), 2);
        x = compared(3, 0, 1, 1, 2, 0, 2);
        due("the greatest is on 2: comparer(2, 3)", x.comparer(2, 3), 1);
        x = compared(8, EIGHT);
        due("the 19 of eight: sorter(5)", x.sorter(5), 0);
        for (int a = 0; a < 7; a++) x.compare(a, a + 1);
        due("all is sorted: sorter(5)", x.sorter(5), 7);
        x.compare(7, 0);
        due("turned round it is not: sorter(5)", x.sorter(5), 7);
        due("comparer(26, 3)", x.comparer(26, 3), 0);
        due("none: sorter(5)", new CallStages().sorter(5), 0);
    }

    private static void wires() {
        CallStages x = compared(5, 0, 1, 1, 2, 4, 3);
        says("Promise 20", "OUTSIDE");
        for (int wrong : new int[] {1, 9, 0, -1, LEAST, MOST}) due("wires(" + wrong + ")", x.wires(wrong), OUTSIDE);
        due("nothing is changed: many(2)", x.many(2), 5);
        due("nothing is changed: many(1)", x.many(1), 3);
        due("nothing is changed: sorter(1)", x.sorter(1), 2);
        says("Promise 20", "WIRES become w, without COMPARERS: how many COMPARERS there were");
        due("as many as there are: wires(5)", x.wires(5), 3);
        due("many(1)", x.many(1), 0);
        due("sorter(1)", x.sorter(1), 0);
        due("sorter(3)", x.sorter(3), 1);
        due("comparer(0, 0)", x.comparer(0, 0), UNKNOWN);
        due("there are none: wires(2)", x.wires(2), 0);
        due("many(2)", x.many(2), 2);
        due("numbered from 0 again: compare(1, 0)", x.compare(1, 0), 0);
    }

    private static void compare() {
        CallStages x = new CallStages();
        says("Promise 21", "UNKNOWN: a, b");
        for (int wrong : new int[] {-1, 4, LEAST, MOST}) {
            due("compare(" + wrong + ", 0)", x.compare(wrong, 0), UNKNOWN);
            due("compare(0, " + wrong + ")", x.compare(0, wrong), UNKNOWN);
            due("ahead of OUTSIDE: compare(" + wrong + ", " + wrong + ")", x.compare(wrong, wrong), UNKNOWN);
        }
        says("Promise 21", "OUTSIDE: both are one");
        for (int a = 0; a < 4; a++) due("compare(" + a + ", " + a + ")", x.compare(a, a), OUTSIDE);
        due("nothing is changed: many(1)", x.many(1), 0);
        says("Promise 21", "FULL");
        for (int c = 0; c < 30; c++) x.compare(0, 3);
        due("compare(0, 3)", x.compare(0, 3), FULL);
        due("UNKNOWN ahead: compare(0, 4)", x.compare(0, 4), UNKNOWN);
        due("OUTSIDE ahead: compare(2, 2)", x.compare(2, 2), OUTSIDE);
        due("nothing is changed: many(1)", x.many(1), 30);
        due("nothing is changed: sorter(1)", x.sorter(1), 30);
        x.back();
        due("there is room again: compare(2, 1)", x.compare(2, 1), 29);
        due("full again: compare(2, 1)", x.compare(2, 1), FULL);
    }

    private static void back() {
        CallStages x = new CallStages();
        says("Promise 22", "STATE: there is none");
        due("at first", x.back(), STATE);
        x.compare(0, 1);
        x.wires(4);
        due("behind wires()", x.back(), STATE);
        says("Promise 22", "The latest COMPARER goes: how many there are");
        x.compare(0, 1);
        x.compare(1, 2);
        x.compare(0, 1);
        due("back()", x.back(), 2);
        due("sorter(1)", x.sorter(1), 2);
        due("the others stay: comparer(1, 0)", x.comparer(1, 0), 1);
        due("it is gone: comparer(2, 0)", x.comparer(2, 0), UNKNOWN);
        due("its number is given again: compare(3, 2)", x.compare(3, 2), 2);
        due("comparer(2, 0)", x.comparer(2, 0), 3);
        due("back()", x.back(), 2);
        due("back()", x.back(), 1);
        due("back()", x.back(), 0);
        due("none is left: back()", x.back(), STATE);
        due("none is left: sorter(1)", x.sorter(1), 0);
        due("none is left: sorter(4)", x.sorter(4), 5);
    }

    private static void sorter() {
        says("Promise 23", "OUTSIDE");
        CallStages x = compared(4, 0, 1, 0, 1);
        for (int wrong : new int[] {-1, 6, LEAST, MOST}) due("sorter(" + wrong + ")", x.sorter(wrong), OUTSIDE);
        due("the last one: sorter(5)", x.sorter(5), 1);
        says("Promise 23", "3 the FIRST row that does not come out in order (NONE)");
        due("it sorts", compared(3, 0, 1, 1, 2, 0, 1).sorter(3), NONE);
        due("one more than it needs", compared(3, 0, 1, 1, 2, 0, 1, 1, 2).sorter(3), NONE);
        due("it does not", compared(3, 0, 1, 1, 2).sorter(3), 3);
    }

    private static void comparer() {
        CallStages x = compared(4, 3, 0, 1, 2);
        says("Promise 24", "UNKNOWN");
        for (int wrong : new int[] {-1, 2, 30, LEAST, MOST}) {
            due("comparer(" + wrong + ", 0)", x.comparer(wrong, 0), UNKNOWN);
            due("ahead of OUTSIDE: comparer(" + wrong + ", 5)", x.comparer(wrong, 5), UNKNOWN);
        }
        says("Promise 24", "OUTSIDE");
        for (int wrong : new int[] {-1, 5, LEAST, MOST}) due("comparer(1, " + wrong + ")", x.comparer(1, wrong), OUTSIDE);
        says("Promise 24", "0 a, 1 b");
        due("comparer(0, 0)", x.comparer(0, 0), 3);
        due("comparer(0, 1)", x.comparer(0, 1), 0);
        says("Promise 24", "2 the step in which it can be done (0 and on)");
        due("comparer(0, 2)", x.comparer(0, 2), 0);
        due("beside the first: comparer(1, 2)", x.comparer(1, 2), 0);
        x.compare(0, 1);
        x.compare(0, 2);
        due("behind both: comparer(2, 2)", x.comparer(2, 2), 1);
        due("behind that: comparer(3, 2)", x.comparer(3, 2), 2);
        due("a step less than DEPTH: sorter(1)", x.sorter(1), 3);
    }

    private static void kinds() {
        says("Terms", "0 PLAIN");
        due("neighbours: comparer(0, 4)", compared(8, 0, 1).comparer(0, 4), 0);
        due("the last ones: comparer(0, 4)", compared(8, 6, 7).comparer(0, 4), 0);
        says("Terms", "1 LONG: its wires are not neighbours");
        due("one between: comparer(0, 4)", compared(8, 0, 2).comparer(0, 4), 1);
        due("the first and the last are no neighbours: comparer(0, 4)", compared(8, 0, 7).comparer(0, 4), 1);
        says("Terms", "2 TURNED: a above b");
        due("far apart: comparer(0, 4)", compared(8, 7, 0).comparer(0, 4), 2);
        due("one between: comparer(0, 4)", compared(8, 2, 0).comparer(0, 4), 2);
        due("neighbours, too: comparer(0, 4)", compared(8, 1, 0).comparer(0, 4), 2);
    }

    private static void sort() {
        says("Promise 25", "one for each WIRE, go through all COMPARERS, and come back so: how many changed");
        CallStages x = compared(3, 0, 1, 1, 2, 0, 1);
        lay(x, 0, 2, 9, 3, 2, 1, 0);
        due("from 1 on: sort(0, 2, 1)", x.sort(0, 2, 1), 2);
        dueCells("those ahead and behind stay", x, 0, 2, 9, 1, 2, 3, 0);
        due("the last ones: sort(0, 2, 2)", x.sort(0, 2, 2), 3);
        dueCells("the last ones", x, 0, 2, 9, 1, 0, 2, 3);
        due("all of them are in order: sort(0, 2, 2)", x.sort(0, 2, 2), 0);
        due("even ones do not change: sort", sorted(compared(2, 0, 1), 4, 4), 0);
        due("without comparers: sort", sorted(compared(2), 4, 3), 0);
        due("there and back: sort", sorted(compared(2, 0, 1, 1, 0), 4, 3), 0);
        due("eight: sort", sorted(compared(8, EIGHT), 8, 7, 6, 5, 4, 3, 2, 1), 8);
        says("Promise 25", "taken as a row of a LANE");
        x = compared(2, 0, 1);
        lay(x, 0, 0, 127, 128);
        due("bytes: sort(0, 0, 0)", x.sort(0, 0, 0), 2);
        dueCells("128 is cut to -128", x, 0, 0, -128, 127);
        lay(x, 0, 1, 32767, 32768);
        due("shorts: sort(0, 1, 0)", x.sort(0, 1, 0), 2);
        dueCells("32768 is cut to -32768", x, 0, 1, -32768, 32767);
        lay(x, 0, 2, MOST, LEAST);
        due("ints: sort(0, 2, 0)", x.sort(0, 2, 0), 2);
        dueCells("ints", x, 0, 2, LEAST, MOST);
    }

    private static int sorted(CallStages x, int... cells) {
        lay(x, 0, 2, cells);
        return x.sort(0, 2, 0);
    }

    private static void sortRefused() {
        CallStages x = compared(2, 1, 0);
        lay(x, 0, 1, 1, 2, 3);
        says("Promise 25", "UNKNOWN");
        for (int wrong : new int[] {-1, 4, LEAST, MOST}) {
            due("sort(" + wrong + ", 1, 0)", x.sort(wrong, 1, 0), UNKNOWN);
            due("ahead of OUTSIDE: sort(" + wrong + ", 9, 9)", x.sort(wrong, 9, 9), UNKNOWN);
        }
        says("Promise 25", "OUTSIDE: lane");
        for (int wrong : new int[] {-1, 3, LEAST, MOST}) {
            due("sort(0, " + wrong + ", 0)", x.sort(0, wrong, 0), OUTSIDE);
            due("ahead of NULL: sort(1, " + wrong + ", 0)", x.sort(1, wrong, 0), OUTSIDE);
            due("ahead of INDEX: sort(0, " + wrong + ", 9)", x.sort(0, wrong, 9), OUTSIDE);
        }
        dueCells("nothing is changed", x, 0, 1, 1, 2, 3);
    }

    private static void dueFault(String call, CallStages x, long got, int fault) {
        due(call, got, -10 - fault);
        due(call + ", fault()", x.fault(), fault);
    }

    private static void sortFaults() {
        says("Promise 25", "FAULTS CAST (nothing is no CAST), NULL");
        for (int is = 0; is < 3; is++) {
            CallStages x = compared(2, 1, 0);
            lay(x, 0, is, 1, 2);
            for (int lane = 0; lane < 3; lane++) {
                if (lane != is) dueFault("a row of " + is + " as " + lane, x, x.sort(0, lane, 0), 2);
                if (lane != is) dueFault("CAST ahead of INDEX", x, x.sort(0, lane, 1), 2);
                dueFault("nothing, as " + lane, x, x.sort(1, lane, 0), 1);
                dueFault("NULL ahead of INDEX", x, x.sort(1, lane, -1), 1);
            }
            dueCells("nothing is changed", x, 0, is, 1, 2);
        }
        says("Promise 25", "INDEX: not all cells are there");
        CallStages x = compared(4, 3, 0);
        lay(x, 0, 2, 0, 1, 2, 3, 4);
        for (int wrong : new int[] {-1, 2, 4, 5, 6, LEAST, MOST, MOST - 3}) {
            dueFault("of five: sort(0, 2, " + wrong + ")", x, x.sort(0, 2, wrong), 3);
        }
        dueCells("nothing is changed", x, 0, 2, 0, 1, 2, 3, 4);
        due("the last cells are there: sort(0, 2, 1)", x.sort(0, 2, 1), 2);
        dueCells("the last cells are there", x, 0, 2, 0, 4, 2, 3, 1);
        x.wires(5);
        due("five are there: sort(0, 2, 0)", x.sort(0, 2, 0), 0);
        x.wires(6);
        dueFault("six are not: sort(0, 2, 0)", x, x.sort(0, 2, 0), 3);
        x.sheet(1, 0, 0);
        dueFault("of none: sort(1, 0, 0)", x, x.sort(1, 0, 0), 3);
    }

    private static void tellingAndTrace() {
        says("Terms", "PLAIN (1): a");
        CallStages x = compared(8, 6, 7);
        due("tell(0)", x.tell(0), 6);
        due("trace()", x.trace(), 1);
        says("Terms", "LONG (2): what PLAIN's gives, and b");
        x = compared(8, 2, 7);
        due("tell(0)", x.tell(0), 9);
        due("trace()", x.trace(), 2 * 31 + 1);
        says("Terms", "TURNED (3): what LONG's gives, and what PLAIN's gives (LONG's left out)");
        x = compared(8, 7, 2);
        due("tell(0)", x.tell(0), 16);
        due("trace()", x.trace(), ((3 * 31 + 2) * 31 + 1) * 31 + 1);
        says("Terms", "TRACE (an int that wraps, 0 at first, becomes 31 times it and the number)");
        x = compared(3, 0, 1, 0, 2, 2, 1);
        due("at first: trace()", x.trace(), 0);
        int trace = 0;
        int[][] bodies = {{1}, {2, 1}, {3, 2, 1, 1}};
        for (int time = 0; time < 60; time++) {
            x.tell(time % 3);
            for (int body : bodies[time % 3]) trace = 31 * trace + body;
            due("trace()", x.trace(), trace);
        }
        says("Promise 42", "TRACE");
        due("asked again, it stays: trace()", x.trace(), trace);
        x.back();
        x.wires(2);
        x.compare(0, 1);
        x.as(0, 0);
        x.sorter(5);
        due("what tells nothing leaves it: trace()", x.trace(), trace);
    }

    private static void shown() {
        says("Terms", "SHOWN by a lent body (4): its number");
        CallStages x = compared(8, 2, 1, 5, 6, 0, 7);
        due("PLAIN: show(1)", x.show(1), 1);
        due("trace()", x.trace(), 4);
        due("LONG: show(2)", x.show(2), 2);
        due("trace()", x.trace(), 4 * 31 + 4);
        due("the first one: show(0)", compared(8, 5, 6).show(0), 0);
        says("Terms", "TURNED ones have their own (5): 30");
        x = compared(8, 5, 6, 2, 1, 7, 0);
        due("neighbours: show(1)", x.show(1), 30);
        due("trace()", x.trace(), 5);
        due("far apart: show(2)", x.show(2), 30);
        due("trace()", x.trace(), 5 * 31 + 5);
    }

    private static void tellAndShowRefused() {
        CallStages x = compared(4, 0, 1);
        x.tell(0);
        says("Promise 39", "UNKNOWN");
        for (int wrong : new int[] {-1, 1, 30, LEAST, MOST}) due("tell(" + wrong + ")", x.tell(wrong), UNKNOWN);
        due("nothing is left: trace()", x.trace(), 1);
        due("there are none: tell(0)", new CallStages().tell(0), UNKNOWN);
        says("Promise 40", "UNKNOWN");
        for (int wrong : new int[] {-1, 1, 30, LEAST, MOST}) due("show(" + wrong + ")", x.show(wrong), UNKNOWN);
        due("nothing is left: trace()", x.trace(), 1);
        due("there are none: show(0)", new CallStages().show(0), UNKNOWN);
    }

    private static void as() {
        CallStages x = compared(8, 3, 4, 3, 5, 5, 3, 4, 3);
        says("Promise 41", "CAST: it is none");
        dueFault("PLAIN as LONG", x, x.as(0, 1), 2);
        dueFault("PLAIN as TURNED", x, x.as(0, 2), 2);
        dueFault("LONG as TURNED", x, x.as(1, 2), 2);
        says("Promise 41", "each is PLAIN, too; a TURNED one is taken as LONG");
        for (int c = 0; c < 4; c++) {
            due("as(" + c + ", 0)", x.as(c, 0), 1);
            due("fault()", x.fault(), 0);
        }
        due("LONG as LONG", x.as(1, 1), 1);
        for (int kind = 0; kind < 3; kind++) {
            due("TURNED: as(2, " + kind + ")", x.as(2, kind), 1);
            due("TURNED, neighbours: as(3, " + kind + ")", x.as(3, kind), 1);
        }
        says("Promise 41", "UNKNOWN");
        for (int wrong : new int[] {-1, 4, 30, LEAST, MOST}) {
            due("PLAIN as LONG", x.as(0, 1), CAST);
            due("as(" + wrong + ", 0)", x.as(wrong, 0), UNKNOWN);
            due("ahead of OUTSIDE: as(" + wrong + ", 3)", x.as(wrong, 3), UNKNOWN);
            due("fault()", x.fault(), 0);
        }
        says("Promise 41", "OUTSIDE");
        for (int wrong : new int[] {-1, 3, LEAST, MOST}) {
            due("PLAIN as LONG", x.as(0, 1), CAST);
            due("as(2, " + wrong + ")", x.as(2, wrong), OUTSIDE);
            due("ahead of CAST: as(0, " + wrong + ")", x.as(0, wrong), OUTSIDE);
            due("fault()", x.fault(), 0);
        }
    }
}
