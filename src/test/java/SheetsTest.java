/** Promises 35 to 38, 43 and 44, and the constants. */
public final class SheetsTest {
    private static final int UNKNOWN = -1, OUTSIDE = -2;
    private static final int NULL = -11, INDEX = -13, SIZE = -14;
    private static final int LEAST = Integer.MIN_VALUE, MOST = Integer.MAX_VALUE;
    private static final long LOST = Long.MIN_VALUE;
    private static final Due DUE = new Due("SheetsTest");

    public static void main(String[] args) {
        constants();
        sheet();
        sheetRefused();
        lose();
        putCutsToTheLane();
        putRefused();
        cell();
        faultOfCallsThatNameOne();
        faultIsLeftByTheOthers();
        many();
        DUE.end();
    }

    private static void due(String call, long got, long want) {
        DUE.due(call, got, want);
    }

    private static void constants() {
        due("UNKNOWN", CallStages.UNKNOWN, -1);
        due("OUTSIDE", CallStages.OUTSIDE, -2);
        due("STATE", CallStages.STATE, -3);
        due("FULL", CallStages.FULL, -4);
        due("NONE", CallStages.NONE, -9);
        due("LOST", CallStages.LOST, Long.MIN_VALUE);
    }

    private static void sheet() {
        CallStages x = new CallStages();
        for (int k = 0; k < 4; k++) {
            for (int lane = 0; lane < 3; lane++) {
                due("sheet(" + k + ", " + lane + ", 60)", x.sheet(k, lane, 60), 1);
                due("cell(" + k + ", 59, " + lane + ")", x.cell(k, 59, lane), 0);
                due("cell(" + k + ", 60, " + lane + ")", x.cell(k, 60, lane), LOST);
                x.put(k, 3, 5);
                due("cell(" + k + ", 3, " + lane + ")", x.cell(k, 3, lane), 5);
            }
        }
        due("a new row: sheet(0, 2, 10)", x.sheet(0, 2, 10), 1);
        due("0 at first: cell(0, 3, 2)", x.cell(0, 3, 2), 0);
        due("the others stay: cell(1, 3, 2)", x.cell(1, 3, 2), 5);
        due("none: sheet(0, 0, 0)", x.sheet(0, 0, 0), 1);
        due("put(0, 0, 1)", x.put(0, 0, 1), INDEX);
        due("it has a row: lose(0)", x.lose(0), 1);
    }

    private static void sheetRefused() {
        CallStages x = new CallStages();
        x.sheet(1, 1, 2);
        x.put(1, 0, 7);
        for (int wrong : new int[] {-1, 4, LEAST, MOST}) due("sheet(" + wrong + ", 9, -1)", x.sheet(wrong, 9, -1), UNKNOWN);
        for (int wrong : new int[] {-1, 3, LEAST, MOST}) due("sheet(1, " + wrong + ", -1)", x.sheet(1, wrong, -1), OUTSIDE);
        due("sheet(1, 0, 61)", x.sheet(1, 0, 61), OUTSIDE);
        due("sheet(1, 0, MOST)", x.sheet(1, 0, MOST), OUTSIDE);
        due("refused: fault()", x.fault(), 0);
        due("sheet(1, 0, -1)", x.sheet(1, 0, -1), SIZE);
        due("fault()", x.fault(), 4);
        due("sheet(1, 0, LEAST)", x.sheet(1, 0, LEAST), SIZE);
        due("nothing is changed: cell(1, 0, 1)", x.cell(1, 0, 1), 7);
        due("sheet(2, 0, -1)", x.sheet(2, 0, -1), SIZE);
        due("nothing is changed: lose(2)", x.lose(2), 0);
    }

    private static void lose() {
        CallStages x = new CallStages();
        due("it has nothing: lose(3)", x.lose(3), 0);
        x.sheet(3, 0, 1);
        due("lose(3)", x.lose(3), 1);
        due("lose(3) again", x.lose(3), 0);
        due("put(3, 0, 0)", x.put(3, 0, 0), NULL);
        for (int wrong : new int[] {-1, 4, LEAST, MOST}) due("lose(" + wrong + ")", x.lose(wrong), UNKNOWN);
    }

    private static void putCutsToTheLane() {
        int[] values = {0, 1, -1, 127, 128, 255, 256, 300, -128, -129, 32767, 32768, 65535, 65536, -32768, -32769, MOST, LEAST};
        CallStages x = new CallStages();
        for (int lane = 0; lane < 3; lane++) {
            x.sheet(lane, lane, values.length);
            for (int i = 0; i < values.length; i++) {
                due("put(" + lane + ", " + i + ", " + values[i] + ")", x.put(lane, i, values[i]), 1);
                int want = lane == 0 ? (byte) values[i] : lane == 1 ? (short) values[i] : values[i];
                due("lane " + lane + ", " + values[i], x.cell(lane, i, lane), want);
            }
        }
        due("the cells ahead stay: cell(0, 4, 0)", x.cell(0, 4, 0), -128);
        due("the cells ahead stay: cell(1, 11, 1)", x.cell(1, 11, 1), -32768);
    }

    private static void putRefused() {
        CallStages x = new CallStages();
        x.sheet(0, 0, 3);
        for (int wrong : new int[] {-1, 4, LEAST, MOST}) due("put(" + wrong + ", -1, 0)", x.put(wrong, -1, 0), UNKNOWN);
        due("put(1, -1, 0), NULL ahead of INDEX", x.put(1, -1, 0), NULL);
        due("fault()", x.fault(), 1);
        for (int wrong : new int[] {-1, 3, LEAST, MOST}) due("put(0, " + wrong + ", 1)", x.put(0, wrong, 1), INDEX);
        due("fault()", x.fault(), 3);
        for (int i = 0; i < 3; i++) due("nothing is changed", x.cell(0, i, 0), 0);
    }

    private static void cell() {
        CallStages x = new CallStages();
        x.sheet(2, 1, 4);
        x.put(2, 3, -5);
        due("cell(2, 3, 1)", x.cell(2, 3, 1), -5);
        due("fault()", x.fault(), 0);
        int[][] wrong = {{-1, 0, 9, 0}, {4, 0, 0, 0}, {2, 0, 3, 0}, {2, 0, -1, 0}, {2, 9, 0, 2}, {2, 0, 2, 2}, {0, 9, 0, 1},
            {0, 0, 2, 1}, {2, 4, 1, 3}, {2, -1, 1, 3}, {2, LEAST, 1, 3}, {2, MOST, 1, 3}, {MOST, 0, 1, 0}, {0, 0, LEAST, 0}};
        for (int[] w : wrong) {
            String call = "cell(" + w[0] + ", " + w[1] + ", " + w[2] + ")";
            x.put(0, 0, 0);
            due(call, x.cell(w[0], w[1], w[2]), LOST);
            due(call + ", fault()", x.fault(), w[3]);
        }
    }

    private static void faultOfCallsThatNameOne() {
        CallStages x = new CallStages();
        due("ahead of any: fault()", x.fault(), 0);
        x.compare(0, 1);
        x.sheet(0, 0, -1);
        due("sheet: fault()", x.fault(), 4);
        x.sheet(0, 0, 2);
        due("sheet, none: fault()", x.fault(), 0);
        x.put(1, 0, 0);
        due("put: fault()", x.fault(), 1);
        x.put(0, 0, 0);
        due("put, none: fault()", x.fault(), 0);
        x.cell(0, 2, 0);
        due("cell: fault()", x.fault(), 3);
        x.cell(0, 0, 0);
        due("cell, none: fault()", x.fault(), 0);
        x.order(1, 0, 1, 0);
        due("order: fault()", x.fault(), 2);
        x.order(1, 0, 0, 0);
        due("order, refused: fault()", x.fault(), 0);
        x.sort(1, 0, 0);
        due("sort: fault()", x.fault(), 1);
        x.sort(0, 3, 0);
        due("sort, refused: fault()", x.fault(), 0);
        x.slot(0, 0, 0, 0);
        due("slot: fault()", x.fault(), 3);
        x.slot(3, 0, 0, 0);
        due("slot, refused: fault()", x.fault(), 0);
        x.as(0, 2);
        due("as: fault()", x.fault(), 2);
        x.as(0, 0);
        due("as, none: fault()", x.fault(), 0);
        x.as(0, 2);
        x.put(9, 0, 0);
        due("put, refused: fault()", x.fault(), 0);
        x.as(0, 2);
        x.cell(9, 0, 0);
        due("cell, refused: fault()", x.fault(), 0);
        x.as(0, 2);
        x.sheet(0, 9, 0);
        due("sheet, refused: fault()", x.fault(), 0);
        x.as(0, 2);
        x.order(9, 0, 0, 0);
        due("order, refused: fault()", x.fault(), 0);
    }

    private static void faultIsLeftByTheOthers() {
        CallStages x = new CallStages();
        x.compare(0, 1);
        x.sheet(0, 0, -1);
        x.net(0, 0, 0);
        x.netOf(9);
        x.call(9, 9);
        x.mend(9, 9);
        x.moves(9, 9);
        x.hang(9);
        x.anew();
        x.callOf(9, 9);
        x.links(9, 9);
        x.outlet(9);
        x.ways();
        x.first();
        x.carry(9, 0);
        x.line(9, 9);
        x.clash(9, 9);
        x.rounds();
        x.round(9);
        due("fault()", x.fault(), 4);
        x.wires(99);
        x.compare(9, 9);
        x.sorter(9);
        x.comparer(9, 9);
        x.tell(9);
        x.show(9);
        x.back();
        x.back();
        due("fault()", x.fault(), 4);
        x.bar(9);
        x.traffic(9, 9, 9);
        x.span();
        x.parted(9, 9);
        x.changes();
        x.queue(9, 9, 9);
        x.waiting();
        x.lost(9, 0, 9);
        x.lose(9);
        x.lose(1);
        x.trace();
        x.many(9);
        due("fault()", x.fault(), 4);
        due("fault() again", x.fault(), 4);
    }

    private static void many() {
        CallStages x = new CallStages();
        x.call(0, 0);
        x.call(2, 2);
        x.mend(4, 4);
        x.wires(7);
        x.compare(0, 6);
        x.compare(6, 0);
        x.bar(5);
        x.carry(3, 5);
        int[] all = {3, 2, 7, 5, 3};
        for (int what = 0; what < 5; what++) due("many(" + what + ")", x.many(what), all[what]);
        for (int wrong : new int[] {-1, 5, LEAST, MOST}) due("many(" + wrong + ")", x.many(wrong), OUTSIDE);
        x.hang(0);
        due("many(0)", x.many(0), 2);
        x.back();
        due("many(1)", x.many(1), 1);
    }
}
