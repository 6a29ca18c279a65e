import java.util.ArrayList;
import java.util.List;
import java.util.function.ToLongFunction;

/**
 * Refusals and faults change nothing, and no more does a call that only asks: two objects come to the same state, one of
 * them is asked, and then all that the face tells of both is held against one another.
 */
public final class NothingChangesTest {
    private static final int UNKNOWN = -1, OUTSIDE = -2, STATE = -3, FULL = -4, NONE = -9;
    private static final int NULL = -11, CAST = -12, INDEX = -13, SIZE = -14;
    private static final long LOST = Long.MIN_VALUE;
    /** What fault() tells in the state from which all start. */
    private static final int EARLIER = 1;
    private static final Due DUE = new Due("NothingChangesTest");

    public static void main(String[] args) {
        refusalsOfTheNet();
        refusalsOfCrossedNets();
        refusalsOfComparers();
        refusalsOfTheCrossbar();
        refusalsOfSheets();
        faults();
        blockedCalls();
        questions();
        fullOnes();
        DUE.end();
    }

    private static void says(String where, String words) {
        DUE.says(where, words);
    }

    /** Something of all there is: calls, an order, comparers, traffic, queues, sheets, a trace and a fault. */
    private static CallStages busy() {
        CallStages x = new CallStages();
        x.net(3, 3, 2);
        int[][] calls = {{0, 3}, {1, 0}, {3, 4}, {6, 7}, {7, 1}};
        for (int[] call : calls) x.call(call[0], call[1]);
        x.carry(3, 0xB1E57);
        x.wires(5);
        int[][] pairs = {{0, 1}, {2, 4}, {4, 1}, {0, 1}, {3, 2}};
        for (int[] pair : pairs) x.compare(pair[0], pair[1]);
        x.tell(2);
        x.show(4);
        x.bar(4);
        int[][] table = {{1, 0, 2, 0}, {0, 3, 0, 1}, {2, 0, 0, 0}, {0, 0, 1, 1}};
        for (int i = 0; i < 4; i++) for (int o = 0; o < 4; o++) x.traffic(i, o, table[i][o]);
        lay(x, 0, 0, 0, 1, 0, 0, 9);
        lay(x, 1, 1, 3, 2, 1, 0);
        lay(x, 2, 2, 5, 5, -7, 9, 70000, 4);
        for (int time = 0; time < 4; time++) x.slot(1, 0, 0, 0);
        x.put(3, 0, 0);
        return x;
    }

    private static void lay(CallStages x, int sheet, int lane, int... cells) {
        x.sheet(sheet, lane, cells.length);
        for (int i = 0; i < cells.length; i++) x.put(sheet, i, cells[i]);
    }

    /** All that the face tells; the object is not used any more behind it. */
    private static List<Long> told(CallStages x) {
        List<Long> all = new ArrayList<>();
        add(all, x.fault(), x.trace(), x.waiting(), x.span(), x.changes(), x.ways(), x.first(), x.rounds());
        for (int what = 0; what < 6; what++) add(all, x.netOf(what), x.sorter(what), x.many(what));
        for (int i = 0; i < 9; i++) add(all, x.callOf(i, 0), x.callOf(i, 1), x.outlet(i));
        for (int a = 0; a < 2; a++) add(all, x.links(a, 0), x.links(a, 1));
        for (int c = 0; c < 6; c++) for (int what = 0; what < 2; what++) add(all, x.comparer(c, what));
        for (int cell = 0; cell < 16; cell++) add(all, x.queue(cell / 4, cell % 4, 0));
        for (int i = 0; i < 5; i++) for (int what = 1; what < 4; what++) add(all, x.queue(i, 0, what));
        for (int cell = 0; cell < 24; cell++) add(all, x.parted(cell / 4, cell % 4));
        for (int cell = 0; cell < 25; cell++) add(all, x.traffic(cell / 5, cell % 5, 0));
        int[] lanes = {0, 1, 2, 0};
        for (int k = 0; k < 4; k++) for (int i = 0; i < 7; i++) add(all, x.cell(k, i, lanes[k]));
        for (int k = 0; k < 4; k++) add(all, x.lose(k));
        return all;
    }

    private static void add(List<Long> all, long... more) {
        for (long one : more) all.add(one);
    }

    private static final List<Long> UNTOUCHED = told(busy());

    private static void same(String call, ToLongFunction<CallStages> asked, long answer, int fault) {
        CallStages x = busy();
        DUE.due(call, asked.applyAsLong(x), answer);
        List<Long> then = told(x);
        DUE.due(call + ": fault()", then.get(0), fault);
        for (int at = 1; at < then.size(); at++) DUE.due(call + ": what is told, " + at, then.get(at), UNTOUCHED.get(at));
    }

    /** Of a call that names no fault: fault() stays. */
    private static void refused(String call, ToLongFunction<CallStages> asked, long answer) {
        same(call, asked, answer, EARLIER);
    }

    /** Of a call that names faults: fault() becomes 0. */
    private static void refusedAhead(String call, ToLongFunction<CallStages> asked, long answer) {
        same(call, asked, answer, 0);
    }

    private static void refusalsOfTheNet() {
        says("Terms", "they change nothing");
        refused("net(0, 1, 1)", x -> x.net(0, 1, 1), OUTSIDE);
        refused("net(1, 5, 1)", x -> x.net(1, 5, 1), OUTSIDE);
        refused("net(1, 1, 8)", x -> x.net(1, 1, 8), OUTSIDE);
        refused("netOf(6)", x -> x.netOf(6), OUTSIDE);
        refused("call(9, 8)", x -> x.call(9, 8), UNKNOWN);
        refused("call(8, -1)", x -> x.call(8, -1), UNKNOWN);
        refused("call(0, 8)", x -> x.call(0, 8), STATE);
        refused("call(8, 0)", x -> x.call(8, 0), STATE);
        refused("mend(9, 8)", x -> x.mend(9, 8), UNKNOWN);
        refused("mend(8, -1)", x -> x.mend(8, -1), UNKNOWN);
        refused("mend(0, 8)", x -> x.mend(0, 8), STATE);
        refused("mend(8, 0)", x -> x.mend(8, 0), STATE);
        refused("moves(9, 8)", x -> x.moves(9, 8), UNKNOWN);
        refused("moves(8, 0)", x -> x.moves(8, 0), STATE);
        refused("hang(9)", x -> x.hang(9), UNKNOWN);
        refused("hang(8)", x -> x.hang(8), STATE);
        refused("callOf(9, 0)", x -> x.callOf(9, 0), UNKNOWN);
        refused("callOf(0, 2)", x -> x.callOf(0, 2), OUTSIDE);
        refused("links(2, 0)", x -> x.links(2, 0), UNKNOWN);
        refused("links(0, 2)", x -> x.links(0, 2), OUTSIDE);
        refused("lost(1, 0, 0)", x -> x.lost(1, 0, 0), LOST);
    }

    private static void refusalsOfCrossedNets() {
        says("Terms", "they change nothing (but fault(), of a call that names FAULTS)");
        refusedAhead("order(2, 4, 1, 0)", x -> x.order(2, 4, 1, 0), UNKNOWN);
        refusedAhead("order(2, 1, 3, 0)", x -> x.order(2, 1, 3, 0), OUTSIDE);
        refusedAhead("order(4, 1, 1, 0)", x -> x.order(4, 1, 1, 0), OUTSIDE);
        refusedAhead("no order: order(2, 2, 2, 0)", x -> x.order(2, 2, 2, 0), OUTSIDE);
        refusedAhead("no order: order(1, 1, 1, 1)", x -> x.order(1, 1, 1, 1), OUTSIDE);
        refused("outlet(8)", x -> x.outlet(8), UNKNOWN);
        refused("carry(4, 0)", x -> x.carry(4, 0), OUTSIDE);
        refused("carry(2, 64)", x -> x.carry(2, 64), OUTSIDE);
        refused("line(8, 0)", x -> x.line(8, 0), UNKNOWN);
        refused("line(0, 3)", x -> x.line(0, 3), UNKNOWN);
        refused("clash(8, 0)", x -> x.clash(8, 0), UNKNOWN);
        refused("clash(1, 1)", x -> x.clash(1, 1), STATE);
        refused("round(8)", x -> x.round(8), UNKNOWN);
    }

    private static void refusalsOfComparers() {
        says("Terms", "they change nothing (but fault(), of a call that names FAULTS)");
        refused("wires(1)", x -> x.wires(1), OUTSIDE);
        refused("wires(9)", x -> x.wires(9), OUTSIDE);
        refused("compare(5, 0)", x -> x.compare(5, 0), UNKNOWN);
        refused("compare(3, 3)", x -> x.compare(3, 3), OUTSIDE);
        refused("sorter(6)", x -> x.sorter(6), OUTSIDE);
        refused("comparer(5, 0)", x -> x.comparer(5, 0), UNKNOWN);
        refused("comparer(0, 5)", x -> x.comparer(0, 5), OUTSIDE);
        refused("tell(5)", x -> x.tell(5), UNKNOWN);
        refused("show(5)", x -> x.show(5), UNKNOWN);
        refusedAhead("sort(4, 0, 0)", x -> x.sort(4, 0, 0), UNKNOWN);
        refusedAhead("sort(2, 3, 0)", x -> x.sort(2, 3, 0), OUTSIDE);
        refusedAhead("as(5, 0)", x -> x.as(5, 0), UNKNOWN);
        refusedAhead("as(0, 3)", x -> x.as(0, 3), OUTSIDE);
    }

    private static void refusalsOfTheCrossbar() {
        says("Terms", "they change nothing (but fault(), of a call that names FAULTS)");
        refused("bar(0)", x -> x.bar(0), OUTSIDE);
        refused("bar(6)", x -> x.bar(6), OUTSIDE);
        refused("traffic(4, 0, 1)", x -> x.traffic(4, 0, 1), UNKNOWN);
        refused("traffic(0, 4, 1)", x -> x.traffic(0, 4, 1), UNKNOWN);
        refused("traffic(0, 0, 51)", x -> x.traffic(0, 0, 51), OUTSIDE);
        refused("traffic(0, 0, -1)", x -> x.traffic(0, 0, -1), OUTSIDE);
        refused("parted(-1, 0)", x -> x.parted(-1, 0), UNKNOWN);
        refused("parted(0, 4)", x -> x.parted(0, 4), UNKNOWN);
        refused("queue(0, 0, 4)", x -> x.queue(0, 0, 4), OUTSIDE);
        refused("queue(4, 0, 0)", x -> x.queue(4, 0, 0), UNKNOWN);
        refusedAhead("slot(0, 4, 0, 0)", x -> x.slot(0, 4, 0, 0), UNKNOWN);
        refusedAhead("slot(0, 0, 3, 0)", x -> x.slot(0, 0, 3, 0), OUTSIDE);
        refusedAhead("slot(3, 0, 0, 0)", x -> x.slot(3, 0, 0, 0), OUTSIDE);
        for (int rule = 0; rule < 3; rule++) {
            int by = rule;
            refusedAhead("the last cell is 9: slot(" + by + ", 0, 0, 1)", x -> x.slot(by, 0, 0, 1), OUTSIDE);
        }
    }

    private static void refusalsOfSheets() {
        says("Terms", "they change nothing (but fault(), of a call that names FAULTS)");
        refusedAhead("sheet(4, 0, 1)", x -> x.sheet(4, 0, 1), UNKNOWN);
        refusedAhead("sheet(2, 3, 1)", x -> x.sheet(2, 3, 1), OUTSIDE);
        refusedAhead("sheet(2, 0, 61)", x -> x.sheet(2, 0, 61), OUTSIDE);
        refusedAhead("put(4, 0, 1)", x -> x.put(4, 0, 1), UNKNOWN);
        refusedAhead("cell(4, 0, 0)", x -> x.cell(4, 0, 0), LOST);
        refusedAhead("cell(0, 0, 3)", x -> x.cell(0, 0, 3), LOST);
        refused("lose(4)", x -> x.lose(4), UNKNOWN);
        refused("many(5)", x -> x.many(5), OUTSIDE);
    }

    private static void faults() {
        says("Terms", "and changes nothing; fault() tells it");
        same("order(2, 3, 0, 0)", x -> x.order(2, 3, 0, 0), NULL, 1);
        same("order(2, 1, 0, 0)", x -> x.order(2, 1, 0, 0), CAST, 2);
        same("order(2, 1, 1, 1)", x -> x.order(2, 1, 1, 1), INDEX, 3);
        same("sort(3, 0, 0)", x -> x.sort(3, 0, 0), NULL, 1);
        same("sort(2, 0, 0)", x -> x.sort(2, 0, 0), CAST, 2);
        same("sort(2, 2, 2)", x -> x.sort(2, 2, 2), INDEX, 3);
        same("sort(2, 2, -1)", x -> x.sort(2, 2, -1), INDEX, 3);
        same("slot(0, 3, 0, 0)", x -> x.slot(0, 3, 0, 0), NULL, 1);
        same("slot(0, 0, 1, 0)", x -> x.slot(0, 0, 1, 0), CAST, 2);
        same("slot(0, 0, 0, 2)", x -> x.slot(0, 0, 0, 2), INDEX, 3);
        same("sheet(2, 0, -1)", x -> x.sheet(2, 0, -1), SIZE, 4);
        same("put(3, 0, 1)", x -> x.put(3, 0, 1), NULL, 1);
        same("put(2, 6, 1)", x -> x.put(2, 6, 1), INDEX, 3);
        same("put(2, -1, 1)", x -> x.put(2, -1, 1), INDEX, 3);
        same("cell(3, 0, 0)", x -> x.cell(3, 0, 0), LOST, 1);
        same("cell(2, 0, 0)", x -> x.cell(2, 0, 0), LOST, 2);
        same("cell(2, 6, 2)", x -> x.cell(2, 6, 2), LOST, 3);
        same("as(0, 1)", x -> x.as(0, 1), CAST, 2);
    }

    private static void blockedCalls() {
        says("Promise 4", "NONE: it is BLOCKED");
        refused("call(2, 5)", x -> x.call(2, 5), NONE);
        says("Promise 5", "NONE: no LINK of its inlet's, or of its outlet's switch is free");
        refused("of the inlet's: mend(2, 5)", x -> x.mend(2, 5), NONE);
        refused("of the outlet's: mend(4, 5)", x -> x.mend(4, 5), NONE);
        refused("moves(2, 5)", x -> x.moves(2, 5), NONE);
    }

    private static void questions() {
        says("Promise 6", "(nothing is done)");
        refused("moves(4, 8)", x -> x.moves(4, 8), 1);
        refused("moves(5, 6)", x -> x.moves(5, 6), 1);
        says("Not promised", "Nothing is promised beyond the answers and state changes described above");
        refused("ways(), first(), rounds()", x -> x.ways() * 0 + x.first() * 0 + x.rounds() * 0, 0);
        refused("line(7, 2)", x -> x.line(7, 2) - x.outlet(7), 0);
        refused("clash(0, 1), round(3)", x -> 0L * (x.clash(0, 1) + x.round(3)), 0);
        refused("netOf, callOf, links", x -> 0L * (x.netOf(4) + x.callOf(0, 0) + x.links(0, 0)), 0);
        refused("sorter, comparer", x -> 0L * (x.sorter(2) + x.sorter(3) + x.comparer(0, 3)), 0);
        refused("span, parted, changes", x -> 0L * (x.span() + x.parted(1, 1) + x.changes()), 0);
        refused("queue, waiting", x -> 0L * (x.queue(0, 0, 0) + x.queue(1, 9, 1) + x.waiting()), 0);
        refused("lost(3, 4, 1)", x -> x.lost(3, 4, 1), 256);
        refused("trace, fault, many", x -> 0L * (x.trace() + x.fault() + x.many(1)), 0);
        refusedAhead("cell(2, 4, 2)", x -> x.cell(2, 4, 2), 70000);
        refusedAhead("as(2, 1)", x -> x.as(2, 1), 1);
        refused("it has nothing: lose(3)", x -> x.lose(3), 0);
    }

    /** Where thirty comparers stand, the next one is refused and the thirty are as they were. */
    private static void fullOnes() {
        says("Promise 21", "FULL");
        CallStages x = new CallStages();
        for (int c = 0; c < 30; c++) x.compare(c % 4, (c + 1) % 4);
        int[] ahead = new int[6];
        for (int what = 0; what < 6; what++) ahead[what] = x.sorter(what);
        for (int time = 0; time < 3; time++) DUE.due("compare(0, 1)", x.compare(0, 1), FULL);
        for (int what = 0; what < 6; what++) DUE.due("sorter(" + what + ")", x.sorter(what), ahead[what]);
        for (int c = 0; c < 30; c++) DUE.due("comparer(" + c + ", 0)", x.comparer(c, 0), c % 4);
        DUE.due("fault()", x.fault(), 0);
    }
}
