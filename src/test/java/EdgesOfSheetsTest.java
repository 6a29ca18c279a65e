/** Sheets, faults and counts: each sentence of the document that names an edge has a test of its own here. */
public final class EdgesOfSheetsTest {
    private static final int UNKNOWN = -1, OUTSIDE = -2;
    private static final int NULL = -11, INDEX = -13, SIZE = -14;
    private static final int LEAST = Integer.MIN_VALUE, MOST = Integer.MAX_VALUE;
    private static final long LOST = Long.MIN_VALUE;
    private static final Due DUE = new Due("EdgesOfSheetsTest");

    public static void main(String[] args) {
        sheetsAtFirst();
        rows();
        lanes();
        faultNumbers();
        theFirstFault();
        theLastCall();
        sheet();
        lose();
        put();
        cell();
        cellFaults();
        fault();
        many();
        DUE.end();
    }

    private static void says(String where, String words) {
        DUE.says(where, words);
    }

    private static void due(String call, long got, long want) {
        DUE.due(call, got, want);
    }

    private static void dueFault(String call, CallStages x, long got, int fault) {
        due(call, got, -10 - fault);
        due(call + ", fault()", x.fault(), fault);
    }

    private static void dueLost(String call, CallStages x, long got, int fault) {
        due(call, got, LOST);
        due(call + ", fault()", x.fault(), fault);
    }

    private static void sheetsAtFirst() {
        CallStages x = new CallStages();
        says("Terms 4", "SHEETS 0 .. 3 have nothing (at first)");
        for (int k = 0; k < 4; k++) dueFault("put(" + k + ", 0, 0)", x, x.put(k, 0, 0), 1);
        for (int k = 0; k < 4; k++) dueLost("cell(" + k + ", 0, 0)", x, x.cell(k, 0, 0), 1);
        due("sheet(0, 0, 1)", x.sheet(0, 0, 1), 1);
        due("sheet(3, 0, 1)", x.sheet(3, 0, 1), 1);
        due("sheet(4, 0, 1)", x.sheet(4, 0, 1), UNKNOWN);
        due("sheet(-1, 0, 1)", x.sheet(-1, 0, 1), UNKNOWN);
    }

    private static void rows() {
        CallStages x = new CallStages();
        says("Terms 4", "a row of 0 .. 60 numbers (0 at first) of a LANE");
        due("none of them: sheet(0, 2, 0)", x.sheet(0, 2, 0), 1);
        dueLost("none of them: cell(0, 0, 2)", x, x.cell(0, 0, 2), 3);
        due("one of them: sheet(0, 2, 1)", x.sheet(0, 2, 1), 1);
        due("one of them: cell(0, 0, 2)", x.cell(0, 0, 2), 0);
        dueLost("one of them: cell(0, 1, 2)", x, x.cell(0, 1, 2), 3);
        due("sixty of them: sheet(0, 2, 60)", x.sheet(0, 2, 60), 1);
        for (int i = 0; i < 60; i++) due("cell(0, " + i + ", 2)", x.cell(0, i, 2), 0);
        dueLost("sixty of them: cell(0, 60, 2)", x, x.cell(0, 60, 2), 3);
        for (int i = 0; i < 60; i++) x.put(0, i, i + 1);
        for (int i = 0; i < 60; i++) due("cell(0, " + i + ", 2)", x.cell(0, i, 2), i + 1);
        due("another row: sheet(0, 2, 60)", x.sheet(0, 2, 60), 1);
        for (int i = 0; i < 60; i++) due("0 again: cell(0, " + i + ", 2)", x.cell(0, i, 2), 0);
        due("beyond sixty: sheet(0, 2, 61)", x.sheet(0, 2, 61), OUTSIDE);
    }

    private static void lanes() {
        CallStages x = new CallStages();
        for (int lane = 0; lane < 3; lane++) x.sheet(lane, lane, 12);
        says("Terms 4", "0 bytes");
        int[][] bytes = {{127, 127}, {128, -128}, {-128, -128}, {-129, 127}, {255, -1}, {256, 0}, {257, 1}, {32768, 0},
            {65535, -1}, {MOST, -1}, {LEAST, 0}, {-1, -1}};
        dueCut(x, 0, bytes);
        says("Terms 4", "1 shorts");
        int[][] shorts = {{32767, 32767}, {32768, -32768}, {-32768, -32768}, {-32769, 32767}, {65535, -1}, {65536, 0},
            {65537, 1}, {128, 128}, {-129, -129}, {MOST, -1}, {LEAST, 0}, {-1, -1}};
        dueCut(x, 1, shorts);
        says("Terms 4", "2 ints");
        int[][] ints = {{MOST, MOST}, {LEAST, LEAST}, {32768, 32768}, {65536, 65536}, {-32769, -32769}, {128, 128},
            {-129, -129}, {0, 0}, {-1, -1}, {255, 255}, {1 << 24, 1 << 24}, {1, 1}};
        dueCut(x, 2, ints);
        says("Terms 4", "what comes to a cell of it is cut to its LANE");
        x.wires(2);
        x.compare(1, 0);
        x.put(0, 0, 200);
        x.put(0, 1, 100);
        due("cut as it comes, not as it is sorted: sort(0, 0, 0)", x.sort(0, 0, 0), 2);
        due("cell(0, 0, 0)", x.cell(0, 0, 0), 100);
        due("cell(0, 1, 0)", x.cell(0, 1, 0), -56);
        x.put(0, 0, 256);
        x.put(0, 1, 257);
        due("an ORDER of what is left: order(1, 0, 0, 0)", x.order(1, 0, 0, 0), 2);
        due("outlet(1)", x.outlet(1), 1);
        x.put(0, 0, 255);
        x.put(0, 1, 258);
        x.put(0, 2, 512);
        due("255 is -1: slot(2, 0, 0, 0)", x.slot(2, 0, 0, 0), 2);
        due("queue(0, 0, 1)", x.queue(0, 0, 1), CallStages.NONE);
        due("queue(1, 0, 1)", x.queue(1, 0, 1), 2);
        due("queue(2, 0, 1)", x.queue(2, 0, 1), 0);
    }

    private static void dueCut(CallStages x, int lane, int[][] values) {
        for (int i = 0; i < values.length; i++) due("put(" + lane + ", " + i + ")", x.put(lane, i, values[i][0]), 1);
        for (int i = 0; i < values.length; i++) {
            due(values[i][0] + ": cell(" + lane + ", " + i + ", " + lane + ")", x.cell(lane, i, lane), values[i][1]);
        }
    }

    private static void faultNumbers() {
        CallStages x = new CallStages();
        x.sheet(1, 1, 2);
        says("Terms", "1 NULL (there is nothing)");
        dueFault("put(0, 0, 0)", x, x.put(0, 0, 0), 1);
        dueFault("order(1, 0, 0, 0)", x, x.order(1, 0, 0, 0), 1);
        x.lose(1);
        dueFault("it has nothing again: put(1, 0, 0)", x, x.put(1, 0, 0), 1);
        x.sheet(1, 1, 2);
        says("Terms", "2 CAST (it is of another LANE, kind)");
        dueFault("another lane: order(1, 1, 0, 0)", x, x.order(1, 1, 0, 0), 2);
        dueFault("another lane: order(1, 1, 2, 0)", x, x.order(1, 1, 2, 0), 2);
        x.compare(0, 1);
        dueFault("another kind: as(0, 1)", x, x.as(0, 1), 2);
        says("Terms", "3 INDEX");
        dueFault("behind the last: put(1, 2, 0)", x, x.put(1, 2, 0), 3);
        dueFault("ahead of 0: put(1, -1, 0)", x, x.put(1, -1, 0), 3);
        says("Terms", "of cells from i on also where i is not 0 .. how many there are, if none of them is taken, too");
        for (int n = 0; n < 4; n++) {
            x.sheet(2, 2, n);
            for (int i : new int[] {-1, n, n + 1}) {
                dueFault("of " + n + ": order(1, 2, 2, " + i + ")", x, x.order(1, 2, 2, i), 3);
                dueFault("of " + n + ": sort(2, 2, " + i + ")", x, x.sort(2, 2, i), 3);
                dueFault("of " + n + ": slot(0, 2, 2, " + i + ")", x, x.slot(0, 2, 2, i), 3);
                dueFault("of " + n + ": put(2, " + i + ", 0)", x, x.put(2, i, 0), 3);
                dueLost("of " + n + ": cell(2, " + i + ", 2)", x, x.cell(2, i, 2), 3);
            }
        }
        says("Terms", "4 SIZE (a length below 0)");
        dueFault("sheet(1, 1, -1)", x, x.sheet(1, 1, -1), 4);
        dueFault("sheet(1, 1, LEAST)", x, x.sheet(1, 1, LEAST), 4);
        due("0 is none: sheet(1, 1, 0)", x.sheet(1, 1, 0), 1);
        says("Terms", "it answers -10 less it (LOST, where a long is answered, as for refusals) and changes nothing");
        due("NULL", x.put(0, 0, 0), -11);
        due("CAST", x.as(0, 2), -12);
        due("INDEX", x.put(1, 0, 0), -13);
        due("SIZE", x.sheet(0, 0, -1), -14);
        due("a long: cell(0, 0, 0)", x.cell(0, 0, 0), LOST);
        due("a long, refused: cell(4, 0, 0)", x.cell(4, 0, 0), LOST);
        due("a long, refused: lost(2, 1, 0)", x.lost(2, 1, 0), LOST);
        due("sheet 0 has nothing: lose(0)", x.lose(0), 0);
    }

    private static void theFirstFault() {
        CallStages x = new CallStages();
        x.sheet(0, 0, 2);
        says("Terms", "Of a call the first that is come to, in the order told");
        dueFault("CAST and INDEX: order(1, 0, 1, 5)", x, x.order(1, 0, 1, 5), 2);
        dueFault("NULL and INDEX: order(1, 1, 1, 5)", x, x.order(1, 1, 1, 5), 1);
        dueFault("CAST and INDEX: sort(0, 2, -1)", x, x.sort(0, 2, -1), 2);
        dueFault("NULL and INDEX: sort(1, 2, -1)", x, x.sort(1, 2, -1), 1);
        dueFault("CAST and INDEX: slot(0, 0, 1, 9)", x, x.slot(0, 0, 1, 9), 2);
        dueFault("NULL and INDEX: slot(0, 1, 1, 9)", x, x.slot(0, 1, 1, 9), 1);
        dueFault("NULL and INDEX: put(1, -1, 0)", x, x.put(1, -1, 0), 1);
        dueLost("CAST and INDEX: cell(0, 2, 1)", x, x.cell(0, 2, 1), 2);
        dueLost("NULL and INDEX: cell(1, 2, 1)", x, x.cell(1, 2, 1), 1);
        says("Terms", "REFUSALS, the first of these that fits");
        due("UNKNOWN and SIZE: sheet(4, 0, -1)", x.sheet(4, 0, -1), UNKNOWN);
        due("OUTSIDE and SIZE: sheet(0, 3, -1)", x.sheet(0, 3, -1), OUTSIDE);
        due("UNKNOWN and OUTSIDE: sheet(4, 3, 61)", x.sheet(4, 3, 61), UNKNOWN);
        due("UNKNOWN and INDEX: put(4, 9, 0)", x.put(4, 9, 0), UNKNOWN);
        due("fault()", x.fault(), 0);
    }

    private static void theLastCall() {
        says("What it is", "An object is used for at most 512 calls after it has been made");
        CallStages x = new CallStages();
        x.sheet(0, 0, 3);
        x.compare(3, 0);
        x.net(5, 4, 4);
        int trace = 0;
        for (int time = 0; time < 50; time++) {
            x.tell(0);
            trace = (((trace * 31 + 3) * 31 + 2) * 31 + 1) * 31 + 1;
            x.slot(time % 3, 0, 0, 0);
            x.mend(time % 20, time * 7 % 20);
            x.moves(time % 20, 19);
            x.carry(3, time * 20001L);
            x.first();
            x.rounds();
            x.traffic(time % 3, time % 2, time);
            x.changes();
            x.lost(time % 20, 20, 0);
        }
        due("call 504: trace()", x.trace(), trace);
        due("call 505: waiting()", x.waiting(), 100);
        due("call 506: many(0)", x.many(0), 20);
        due("call 507: hang(0)", x.hang(0) >= 0 ? 1 : 0, 1);
        due("call 508: span()", x.span(), 49 + 45 + 47);
        due("call 509: put(0, 2, 300)", x.put(0, 2, 300), 1);
        due("call 510: cell(0, 2, 0)", x.cell(0, 2, 0), 44);
        due("call 511: put(1, 0, 0)", x.put(1, 0, 0), NULL);
        due("call 512: fault()", x.fault(), 1);
    }

    private static void sheet() {
        CallStages x = new CallStages();
        says("Promise 35", "A SHEET gets a new row: 1");
        due("sheet(2, 0, 3)", x.sheet(2, 0, 3), 1);
        x.put(2, 0, 9);
        due("another one of the same: sheet(2, 0, 3)", x.sheet(2, 0, 3), 1);
        due("cell(2, 0, 0)", x.cell(2, 0, 0), 0);
        x.put(2, 0, 9);
        due("of another lane: sheet(2, 1, 2)", x.sheet(2, 1, 2), 1);
        due("cell(2, 0, 1)", x.cell(2, 0, 1), 0);
        dueLost("no longer of bytes: cell(2, 0, 0)", x, x.cell(2, 0, 0), 2);
        dueLost("no longer three: cell(2, 2, 1)", x, x.cell(2, 2, 1), 3);
        due("the others have nothing: lose(1)", x.lose(1), 0);
        says("Promise 35", "UNKNOWN");
        for (int wrong : new int[] {-1, 4, LEAST, MOST}) {
            due("sheet(" + wrong + ", 0, 1)", x.sheet(wrong, 0, 1), UNKNOWN);
            due("ahead of OUTSIDE: sheet(" + wrong + ", 3, 61)", x.sheet(wrong, 3, 61), UNKNOWN);
        }
        says("Promise 35", "OUTSIDE: lane, n above 60");
        for (int wrong : new int[] {-1, 3, LEAST, MOST}) {
            due("sheet(2, " + wrong + ", 1)", x.sheet(2, wrong, 1), OUTSIDE);
            due("ahead of SIZE: sheet(2, " + wrong + ", -1)", x.sheet(2, wrong, -1), OUTSIDE);
        }
        for (int lane = 0; lane < 3; lane++) {
            due("sheet(2, " + lane + ", 61)", x.sheet(2, lane, 61), OUTSIDE);
            due("sheet(2, " + lane + ", MOST)", x.sheet(2, lane, MOST), OUTSIDE);
            due("fault()", x.fault(), 0);
            due("60 is not above: sheet(1, " + lane + ", 60)", x.sheet(1, lane, 60), 1);
        }
        says("Promise 35", "SIZE");
        x.put(2, 0, 7);
        dueFault("sheet(2, 1, -1)", x, x.sheet(2, 1, -1), 4);
        dueFault("sheet(3, 1, LEAST)", x, x.sheet(3, 1, LEAST), 4);
        due("nothing is changed: cell(2, 0, 1)", x.cell(2, 0, 1), 7);
        due("nothing is changed: lose(3)", x.lose(3), 0);
    }

    private static void lose() {
        CallStages x = new CallStages();
        x.sheet(3, 2, 4);
        x.sheet(0, 2, 0);
        says("Promise 36", "A SHEET has nothing: 1; 0: it had nothing");
        due("lose(3)", x.lose(3), 1);
        due("lose(3) again", x.lose(3), 0);
        due("never had one: lose(1)", x.lose(1), 0);
        due("an empty row is something: lose(0)", x.lose(0), 1);
        due("lose(0) again", x.lose(0), 0);
        due("put(3, 0, 1)", x.put(3, 0, 1), NULL);
        x.sheet(3, 2, 4);
        due("a new row is 0: cell(3, 0, 2)", x.cell(3, 0, 2), 0);
        says("Promise 36", "UNKNOWN");
        for (int wrong : new int[] {-1, 4, LEAST, MOST}) due("lose(" + wrong + ")", x.lose(wrong), UNKNOWN);
        due("nothing is changed: lose(3)", x.lose(3), 1);
    }

    private static void put() {
        CallStages x = new CallStages();
        x.sheet(1, 2, 3);
        x.sheet(2, 2, 0);
        says("Promise 37", "Cell i of a SHEET becomes v: 1");
        due("put(1, 0, 5)", x.put(1, 0, 5), 1);
        due("put(1, 2, 7)", x.put(1, 2, 7), 1);
        due("as it is: put(1, 2, 7)", x.put(1, 2, 7), 1);
        int[] cells = {5, 0, 7};
        for (int i = 0; i < 3; i++) due("cell(1, " + i + ", 2)", x.cell(1, i, 2), cells[i]);
        says("Promise 37", "UNKNOWN");
        for (int wrong : new int[] {-1, 4, LEAST, MOST}) {
            due("put(" + wrong + ", 0, 0)", x.put(wrong, 0, 0), UNKNOWN);
            due("ahead of INDEX: put(" + wrong + ", 9, 0)", x.put(wrong, 9, 0), UNKNOWN);
        }
        says("Promise 37", "NULL");
        dueFault("put(0, 0, 1)", x, x.put(0, 0, 1), 1);
        dueFault("ahead of INDEX: put(0, 60, 1)", x, x.put(0, 60, 1), 1);
        says("Promise 37", "INDEX");
        for (int wrong : new int[] {-1, 3, 60, LEAST, MOST}) dueFault("put(1, " + wrong + ", 1)", x, x.put(1, wrong, 1), 3);
        dueFault("an empty row: put(2, 0, 1)", x, x.put(2, 0, 1), 3);
        for (int i = 0; i < 3; i++) due("nothing is changed: cell(1, " + i + ", 2)", x.cell(1, i, 2), cells[i]);
    }

    private static void cell() {
        CallStages x = new CallStages();
        x.sheet(1, 1, 3);
        x.put(1, 2, -9);
        says("Promise 38", "Cell i of what a SHEET has, taken as a row of a LANE");
        due("cell(1, 0, 1)", x.cell(1, 0, 1), 0);
        due("cell(1, 2, 1)", x.cell(1, 2, 1), -9);
        due("fault()", x.fault(), 0);
        x.sheet(0, 2, 1);
        x.put(0, 0, LEAST);
        due("the least int is no LOST: cell(0, 0, 2)", x.cell(0, 0, 2), LEAST);
        says("Promise 38", "LOST: UNKNOWN");
        for (int wrong : new int[] {-1, 4, LEAST, MOST}) {
            x.put(3, 0, 0);
            dueLost("cell(" + wrong + ", 0, 1)", x, x.cell(wrong, 0, 1), 0);
            x.put(3, 0, 0);
            dueLost("cell(" + wrong + ", 0, 3)", x, x.cell(wrong, 0, 3), 0);
        }
        says("Promise 38", "OUTSIDE: lane");
        for (int wrong : new int[] {-1, 3, LEAST, MOST}) {
            x.put(3, 0, 0);
            dueLost("cell(1, 0, " + wrong + ")", x, x.cell(1, 0, wrong), 0);
            x.put(1, 9, 0);
            dueLost("ahead of NULL: cell(3, 0, " + wrong + ")", x, x.cell(3, 0, wrong), 0);
        }
    }

    private static void cellFaults() {
        says("Promise 38", "FAULTS CAST (nothing is no CAST), NULL, INDEX");
        for (int is = 0; is < 3; is++) {
            CallStages x = new CallStages();
            x.sheet(0, is, 2);
            x.sheet(1, is, 0);
            for (int lane = 0; lane < 3; lane++) {
                if (lane != is) dueLost("a row of " + is + " as " + lane, x, x.cell(0, 0, lane), 2);
                if (lane != is) dueLost("CAST ahead of INDEX", x, x.cell(0, 2, lane), 2);
                if (lane != is) dueLost("an empty row is no nothing", x, x.cell(1, 0, lane), 2);
                dueLost("nothing, as " + lane, x, x.cell(2, 0, lane), 1);
                dueLost("NULL ahead of INDEX", x, x.cell(2, -1, lane), 1);
            }
            for (int wrong : new int[] {-1, 2, 60, LEAST, MOST}) dueLost("cell(0, " + wrong + ", " + is + ")", x, x.cell(0, wrong, is), 3);
            dueLost("an empty row: cell(1, 0, " + is + ")", x, x.cell(1, 0, is), 3);
            due("it came to none: cell(0, 1, " + is + ")", x.cell(0, 1, is), 0);
            due("fault()", x.fault(), 0);
        }
    }

    /** For each call that names a fault: one call that comes to none behind one that came to one. */
    private static void fault() {
        CallStages x = new CallStages();
        says("Promise 43", "0 ahead of any");
        due("fault()", x.fault(), 0);
        says("Promise 43", "it came to none");
        x.compare(0, 1);
        x.sheet(0, 0, 4);
        x.put(0, 1, 1);
        for (int which = 0; which < 7; which++) {
            due("NULL", x.put(3, 0, 0), NULL);
            due("fault()", x.fault(), 1);
            due("fault() stays as it is asked", x.fault(), 1);
            due("call " + which + " comes to none", comesToNone(x, which) >= 0 ? 1 : 0, 1);
            due("call " + which + ": fault()", x.fault(), 0);
        }
        says("Promise 43", "or was refused");
        for (int which = 0; which < 7; which++) {
            due("SIZE", x.sheet(3, 0, -1), SIZE);
            due("fault()", x.fault(), 4);
            due("call " + which + " is refused", isRefused(x, which) < 0 ? 1 : 0, 1);
            due("call " + which + ": fault()", x.fault(), 0);
        }
        says("Promise 43", "The FAULT of the latest call that names one");
        due("INDEX", x.put(0, 4, 0), INDEX);
        due("a later one: SIZE", x.sheet(0, 0, -1), SIZE);
        due("fault()", x.fault(), 4);
        x.lose(1);
        x.lose(9);
        x.lost(9, 9, 9);
        x.call(0, 0);
        x.call(9, 9);
        x.tell(0);
        x.tell(9);
        x.carry(0, 0);
        due("others do not name one: fault()", x.fault(), 4);
    }

    private static long comesToNone(CallStages x, int which) {
        switch (which) {
            case 0: return x.order(1, 0, 0, 0);
            case 1: return x.sort(0, 0, 0);
            case 2: return x.slot(0, 0, 0, 0);
            case 3: return x.sheet(1, 0, 0);
            case 4: return x.put(0, 3, 0);
            case 5: return x.cell(0, 0, 0);
            default: return x.as(0, 0);
        }
    }

    private static long isRefused(CallStages x, int which) {
        switch (which) {
            case 0: return x.order(0, 0, 0, 0);
            case 1: return x.sort(0, 3, 0);
            case 2: return x.slot(3, 0, 0, 0);
            case 3: return x.sheet(1, 0, 61);
            case 4: return x.put(4, 3, 0);
            case 5: return x.cell(0, 0, 3);
            default: return x.as(0, 3);
        }
    }

    private static void many() {
        CallStages x = new CallStages();
        says("Promise 44", "0 CALLS, 1 COMPARERS, 2 WIRES, 3 P, 4 K of the ORDER");
        int[] first = {0, 0, 4, 3, 1};
        for (int what = 0; what < 5; what++) due("at first: many(" + what + ")", x.many(what), first[what]);
        x.call(0, 0);
        x.wires(7);
        for (int c = 0; c < 5; c++) x.compare(c, c + 1);
        x.bar(4);
        x.carry(3, 0);
        int[] then = {1, 5, 7, 4, 3};
        for (int what = 0; what < 5; what++) due("then: many(" + what + ")", x.many(what), then[what]);
        says("Promise 44", "OUTSIDE");
        for (int wrong : new int[] {-1, 5, LEAST, MOST}) due("many(" + wrong + ")", x.many(wrong), OUTSIDE);
    }
}
