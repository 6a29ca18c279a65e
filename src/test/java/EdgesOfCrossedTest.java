import java.util.HashMap;
import java.util.Map;

/** Crossed nets and their half: each sentence of the document that names an edge has a test of its own here. */
public final class EdgesOfCrossedTest {
    private static final int UNKNOWN = -1, OUTSIDE = -2, STATE = -3, NONE = -9;
    private static final int LEAST = Integer.MIN_VALUE, MOST = Integer.MAX_VALUE;
    private static final Due DUE = new Due("EdgesOfCrossedTest");

    public static void main(String[] args) {
        widths();
        settingsBitByBit();
        settingsTogether();
        waysAndFirstOfTwoAndFour();
        waysAndFirstOfEight();
        theHalf();
        clashes();
        partings();
        orderAtFirst();
        orderTaken();
        orderRefused();
        orderFaults();
        orderThatIsNone();
        outlet();
        carry();
        line();
        clash();
        round();
        DUE.end();
    }

    private static void says(String where, String words) {
        DUE.says(where, words);
    }

    private static void due(String call, long got, long want) {
        DUE.due(call, got, want);
    }

    private static void lay(CallStages x, int sheet, int lane, int from, int... cells) {
        x.sheet(sheet, lane, from + cells.length);
        for (int i = 0; i < cells.length; i++) x.put(sheet, from + i, cells[i]);
    }

    private static CallStages ordered(int k, int... outlets) {
        CallStages x = new CallStages();
        lay(x, 0, 2, 0, outlets);
        due("order(" + k + ", 0, 2, 0)", x.order(k, 0, 2, 0), 1 << k);
        return x;
    }

    private static void dueOrder(String what, CallStages x, int... outlets) {
        for (int i = 0; i < outlets.length; i++) due(what + ": outlet(" + i + ")", x.outlet(i), outlets[i]);
        due(what + ": outlet(" + outlets.length + ")", x.outlet(outlets.length), UNKNOWN);
    }

    private static void widths() {
        says("Terms 2", "A CROSSED NET of K (1 .. 3): 2, 4, 8 inlets and outlets, W of them");
        CallStages x = new CallStages();
        due("carry(0, 0)", x.carry(0, 0), OUTSIDE);
        due("carry(4, 0)", x.carry(4, 0), OUTSIDE);
        for (int k = 1; k <= 3; k++) {
            due("carry(" + k + ", 0)", x.carry(k, 0), 1 << k);
            due("many(4)", x.many(4), k);
            due("the last inlet", x.outlet((1 << k) - 1), (1 << k) - 1);
            due("the one behind it", x.outlet(1 << k), UNKNOWN);
        }
        says("Terms 2", "K 1: a PAIR, straight (0) or crossed (1)");
        x.carry(1, 0);
        dueOrder("straight", x, 0, 1);
        x.carry(1, 1);
        dueOrder("crossed", x, 1, 0);
    }

    /** One pair that is crossed, all others being straight, gives two lines for one another. */
    private static void settingsBitByBit() {
        says("Terms 2", "a bit for each PAIR: the first row (bits from 0 on), the last row, the first inner net's, the second one's");
        int[][] ofFour = {{0, 1}, {2, 3}, {0, 1}, {2, 3}, {0, 2}, {1, 3}};
        dueBits(2, ofFour);
        int[][] ofEight = {{0, 1}, {2, 3}, {4, 5}, {6, 7}, {0, 1}, {2, 3}, {4, 5}, {6, 7},
            {0, 2}, {4, 6}, {0, 2}, {4, 6}, {0, 4}, {2, 6}, {1, 3}, {5, 7}, {1, 3}, {5, 7}, {1, 5}, {3, 7}};
        dueBits(3, ofEight);
    }

    private static void dueBits(int k, int[][] swapped) {
        for (int bit = 0; bit < swapped.length; bit++) {
            int[] order = new int[1 << k];
            for (int i = 0; i < order.length; i++) order[i] = i;
            order[swapped[bit][0]] = swapped[bit][1];
            order[swapped[bit][1]] = swapped[bit][0];
            CallStages x = new CallStages();
            x.carry(k, 1L << bit);
            dueOrder("K " + k + ", bit " + bit, x, order);
        }
    }

    /** Which of two rows comes first is seen where an inner pair is crossed, too. */
    private static void settingsTogether() {
        says("Terms 2", "whose first outlets go to a CROSSED NET of K - 1 (that of PAIR i to its inlet i), whose second ones to another one");
        CallStages x = new CallStages();
        x.carry(2, 1 | 16);
        dueOrder("inlet 1 comes to the first inner net", x, 1, 2, 0, 3);
        x.carry(2, 2 | 32);
        dueOrder("inlet 2 comes to the second inner net", x, 0, 3, 1, 2);
        says("Terms 2", "their outlets i go to PAIR i of the last W by 2 PAIRS, first and second inlet");
        x.carry(2, 4 | 16);
        dueOrder("what the first inner net brings goes out at 1", x, 2, 0, 1, 3);
        x.carry(2, 8 | 32);
        dueOrder("what the second inner net brings goes out at 2", x, 0, 2, 3, 1);
    }

    private static long packed(CallStages x, int width) {
        long row = 0;
        for (int i = 0; i < width; i++) row = row * 8 + x.outlet(i);
        return row;
    }

    /** By order: how many settings carry it, the least of them; all settings are carried. */
    private static Map<Long, long[]> allSettings(int k, int pairs) {
        Map<Long, long[]> all = new HashMap<>();
        CallStages x = null;
        for (int settings = 0; settings < 1 << pairs; settings++) {
            if (settings % 50 == 0) x = new CallStages();
            x.carry(k, settings);
            long[] found = all.computeIfAbsent(packed(x, 1 << k), none -> new long[] {0, -1});
            if (found[1] < 0) found[1] = settings;
            found[0]++;
        }
        return all;
    }

    private static CallStages ofPacked(int k, long row) {
        CallStages x = new CallStages();
        int width = 1 << k;
        x.sheet(0, 0, width);
        for (int i = 0; i < width; i++) x.put(0, i, (int) (row >> 3 * (width - 1 - i) & 7));
        x.order(k, 0, 0, 0);
        return x;
    }

    private static void waysAndFirstOfTwoAndFour() {
        Map<Long, long[]> pairs = allSettings(1, 1);
        Map<Long, long[]> four = allSettings(2, 6);
        says("Terms 2", "WAYS: how many SETTINGS carry it");
        due("orders of two", pairs.size(), 2);
        due("orders of four", four.size(), 24);
        for (long row : pairs.keySet()) due("ways() of two", ofPacked(1, row).ways(), pairs.get(row)[0]);
        for (long row : four.keySet()) due("ways() of four", ofPacked(2, row).ways(), four.get(row)[0]);
        says("Terms 2", "the FIRST: the least as a number (a long)");
        for (long row : pairs.keySet()) due("first() of two", ofPacked(1, row).first(), pairs.get(row)[1]);
        for (long row : four.keySet()) due("first() of four", ofPacked(2, row).first(), four.get(row)[1]);
    }

    private static void waysAndFirstOfEight() {
        Map<Long, long[]> eight = allSettings(3, 20);
        says("Promise 13", "WAYS of the ORDER");
        due("orders of eight", eight.size(), 40320);
        for (long row : eight.keySet()) due("ways() of eight", ofPacked(3, row).ways(), eight.get(row)[0]);
        says("Promise 14", "The FIRST of these");
        for (long row : eight.keySet()) due("first() of eight", ofPacked(3, row).first(), eight.get(row)[1]);
    }

    private static void theHalf() {
        CallStages x = new CallStages();
        says("Terms 2", "what is at line x comes to line (2 x) less (W - 1, if x is W by 2 or more) (W - 1 stays)");
        x.carry(3, 0);
        int[] first = {0, 2, 4, 6, 1, 3, 5, 7};
        int[] second = {0, 4, 1, 5, 2, 6, 3, 7};
        for (int i = 0; i < 8; i++) due("straight: line(" + i + ", 0)", x.line(i, 0), first[i]);
        for (int i = 0; i < 8; i++) due("straight: line(" + i + ", 1)", x.line(i, 1), second[i]);
        x.carry(2, 0);
        int[] four = {0, 2, 1, 3};
        for (int i = 0; i < 4; i++) due("straight, of four: line(" + i + ", 0)", x.line(i, 0), four[i]);
        x.carry(1, 0);
        for (int i = 0; i < 2; i++) due("straight, of two: line(" + i + ", 0)", x.line(i, 0), i);
        says("Terms 2", "At row j each goes by bit K - 1 - j of its outlet");
        x = ordered(3, 7, 6, 5, 4, 3, 2, 1, 0);
        int[][] turned = {{1, 3, 7}, {3, 7, 6}, {5, 2, 5}, {7, 6, 4}, {0, 1, 3}, {2, 5, 2}, {4, 0, 1}, {6, 4, 0}};
        for (int i = 0; i < 8; i++) for (int j = 0; j < 3; j++) due("line(" + i + ", " + j + ")", x.line(i, j), turned[i][j]);
        says("Terms 2", "out at the line of its PAIR (2 i or 2 i + 1) with that as its last bit");
        x = ordered(3, 3, 0, 6, 5, 1, 7, 2, 4);
        for (int i = 0; i < 8; i++) due("behind the last row it is at its outlet: line(" + i + ", 2)", x.line(i, 2), x.outlet(i));
        x = ordered(2, 1, 3, 0, 2);
        for (int i = 0; i < 4; i++) due("behind the last row it is at its outlet: line(" + i + ", 1)", x.line(i, 1), x.outlet(i));
    }

    private static void clashes() {
        says("Terms 2", "Two CLASH, if they come to one line behind a row");
        CallStages x = ordered(3, 0, 2, 4, 6, 1, 3, 5, 7);
        for (int i = 0; i < 4; i++) {
            due("behind the first row: clash(" + i + ", " + (i + 4) + ")", x.clash(i, i + 4), 0);
            due("they are at one line", x.line(i, 0), x.line(i + 4, 0));
        }
        due("they are at one line behind none: clash(0, 2)", x.clash(0, 2), NONE);
        x = ordered(3, 0, 6, 1, 7, 4, 2, 5, 3);
        due("behind the second row: clash(0, 2)", x.clash(0, 2), 1);
        due("behind the second row: clash(1, 3)", x.clash(1, 3), 1);
        due("behind the second row: clash(5, 7)", x.clash(5, 7), 1);
        due("clash(0, 4)", x.clash(0, 4), NONE);
    }

    private static void dueSets(String what, CallStages x, int sets, int... byInlets) {
        due(what + ": rounds()", x.rounds(), sets);
        for (int i = 0; i < byInlets.length; i++) due(what + ": round(" + i + ")", x.round(i), byInlets[i]);
    }

    private static void partings() {
        says("Terms 2", "ROUNDS: the fewest sets into which inlets can be parted, such that none of a set CLASH");
        dueSets("none clash", ordered(3, 0, 1, 2, 3, 4, 5, 6, 7), 1, 0, 0, 0, 0, 0, 0, 0, 0);
        dueSets("of two none can", ordered(1, 1, 0), 1, 0, 0);
        dueSets("two clash", ordered(3, 0, 2, 1, 3, 4, 5, 6, 7), 2, 0, 0, 1, 1, 0, 0, 0, 0);
        says("Terms 2", "of several partings the first as a row: by inlets the number of the set (numbered as they come)");
        dueSets("each with the one four behind", ordered(3, 0, 2, 4, 6, 1, 3, 5, 7), 2, 0, 0, 0, 0, 1, 1, 1, 1);
        dueSets("in a ring: 0, 2, 6, 4", ordered(3, 0, 4, 1, 5, 2, 6, 3, 7), 2, 0, 0, 1, 1, 1, 1, 0, 0);
        dueSets("of four", ordered(2, 2, 0, 3, 1), 2, 0, 0, 1, 1);
    }

    private static void orderAtFirst() {
        CallStages x = new CallStages();
        says("Promise 11", "(At first: K 1, straight.)");
        due("many(4)", x.many(4), 1);
        dueOrder("at first", x, 0, 1);
        due("ways()", x.ways(), 1);
        due("first()", x.first(), 0);
        due("rounds()", x.rounds(), 1);
    }

    private static void orderTaken() {
        says("Promise 11", "An ORDER becomes W cells of a SHEET from i on, taken as a row of a LANE, for K: W");
        for (int lane = 0; lane < 3; lane++) {
            CallStages x = new CallStages();
            lay(x, lane, lane, 0, 9, 1, 0, 3, 2, 7, 5, 6, 4, 9);
            due("two cells: order(1, .., 1)", x.order(1, lane, lane, 1), 2);
            dueOrder("two cells", x, 1, 0);
            due("four cells: order(2, .., 1)", x.order(2, lane, lane, 1), 4);
            dueOrder("four cells", x, 1, 0, 3, 2);
            due("eight cells: order(3, .., 1)", x.order(3, lane, lane, 1), 8);
            dueOrder("eight cells", x, 1, 0, 3, 2, 7, 5, 6, 4);
            due("many(4)", x.many(4), 3);
            x.put(lane, 1, 5);
            due("the cells are read once: outlet(0)", x.outlet(0), 1);
            x.lose(lane);
            due("the sheet may go: outlet(7)", x.outlet(7), 4);
        }
    }

    private static void orderRefused() {
        CallStages x = new CallStages();
        lay(x, 1, 1, 0, 0, 1, 2, 3);
        says("Promise 11", "UNKNOWN: SHEET");
        for (int wrong : new int[] {-1, 4, LEAST, MOST}) {
            due("order(2, " + wrong + ", 1, 0)", x.order(2, wrong, 1, 0), UNKNOWN);
            due("ahead of OUTSIDE: order(9, " + wrong + ", 9, 9)", x.order(9, wrong, 9, 9), UNKNOWN);
        }
        says("Promise 11", "OUTSIDE: lane, k");
        for (int wrong : new int[] {-1, 3, LEAST, MOST}) {
            due("order(2, 1, " + wrong + ", 0)", x.order(2, 1, wrong, 0), OUTSIDE);
            due("ahead of NULL: order(2, 0, " + wrong + ", 0)", x.order(2, 0, wrong, 0), OUTSIDE);
        }
        for (int wrong : new int[] {0, 4, -1, 32, 33, LEAST, MOST}) {
            due("order(" + wrong + ", 1, 1, 0)", x.order(wrong, 1, 1, 0), OUTSIDE);
            due("ahead of CAST: order(" + wrong + ", 1, 0, 0)", x.order(wrong, 1, 0, 0), OUTSIDE);
            due("ahead of NULL: order(" + wrong + ", 0, 0, 0)", x.order(wrong, 0, 0, 0), OUTSIDE);
            due("ahead of INDEX: order(" + wrong + ", 1, 1, 9)", x.order(wrong, 1, 1, 9), OUTSIDE);
        }
        dueOrder("nothing is changed", x, 0, 1);
    }

    private static void dueFault(String call, CallStages x, long got, int fault) {
        due(call, got, -10 - fault);
        due(call + ", fault()", x.fault(), fault);
    }

    private static void orderFaults() {
        says("Promise 11", "FAULTS CAST (nothing is no CAST), NULL");
        for (int is = 0; is < 3; is++) {
            CallStages x = new CallStages();
            lay(x, 0, is, 0, 0, 1, 2, 3);
            for (int lane = 0; lane < 3; lane++) {
                if (lane != is) dueFault("a row of " + is + " as " + lane, x, x.order(2, 0, lane, 0), 2);
                if (lane != is) dueFault("CAST ahead of INDEX", x, x.order(2, 0, lane, 1), 2);
                dueFault("nothing, as " + lane, x, x.order(2, 1, lane, 0), 1);
                dueFault("NULL ahead of INDEX", x, x.order(2, 1, lane, -1), 1);
            }
            x.sheet(0, is, 0);
            dueFault("an empty row is no nothing: CAST", x, x.order(2, 0, (is + 1) % 3, 0), 2);
        }
        says("Promise 11", "INDEX: not all cells are there");
        CallStages x = new CallStages();
        lay(x, 0, 2, 0, 0, 1, 2, 3, 4);
        for (int wrong : new int[] {-1, 2, 4, 5, 6, LEAST, MOST, MOST - 3}) {
            dueFault("of five: order(2, 0, 2, " + wrong + ")", x, x.order(2, 0, 2, wrong), 3);
        }
        dueFault("of five: order(3, 0, 2, 0)", x, x.order(3, 0, 2, 0), 3);
        dueFault("of five: order(1, 0, 2, 4)", x, x.order(1, 0, 2, 4), 3);
        x.sheet(1, 2, 0);
        dueFault("of none: order(1, 1, 2, 0)", x, x.order(1, 1, 2, 0), 3);
        x.sheet(1, 2, 1);
        dueFault("of one: order(1, 1, 2, 0)", x, x.order(1, 1, 2, 0), 3);
        dueFault("INDEX ahead of what is no ORDER: order(1, 0, 2, 4)", x, x.order(1, 0, 2, 4), 3);
        dueOrder("nothing is changed", x, 0, 1);
        due("the last cells are there: order(2, 0, 2, 0)", x.order(2, 0, 2, 0), 4);
        x.sheet(2, 0, 60);
        x.put(2, 59, 1);
        due("the last cells of sixty: order(1, 2, 0, 58)", x.order(1, 2, 0, 58), 2);
        dueFault("beyond sixty: order(1, 2, 0, 59)", x, x.order(1, 2, 0, 59), 3);
    }

    private static void orderThatIsNone() {
        says("Promise 11", "OUTSIDE: it is no ORDER");
        CallStages x = ordered(1, 1, 0);
        int[][] none = {{0, 1, 2, 2}, {0, 1, 2, 4}, {-1, 1, 2, 3}, {0, 0, 0, 0}, {3, 3, 3, 3}, {1, 2, 3, 4}, {0, 1, 2, MOST},
            {LEAST, 1, 2, 3}, {0, 1, 2, 35}, {0, 1, 34, 3}, {32, 1, 2, 3}};
        for (int[] row : none) {
            lay(x, 1, 2, 0, row);
            x.put(3, 0, 0);
            due("no ORDER of four", x.order(2, 1, 2, 0), OUTSIDE);
            due("it is refused: fault()", x.fault(), 0);
        }
        lay(x, 1, 0, 0, 0, 1, 2, 3, 4, 5, 6, 6);
        due("no ORDER of eight", x.order(3, 1, 0, 0), OUTSIDE);
        x.put(1, 7, 8);
        due("no ORDER of eight", x.order(3, 1, 0, 0), OUTSIDE);
        lay(x, 1, 1, 0, 1, 2);
        due("no ORDER of two", x.order(1, 1, 1, 0), OUTSIDE);
        x.put(1, 1, 1);
        due("no ORDER of two", x.order(1, 1, 1, 0), OUTSIDE);
        dueOrder("nothing is changed", x, 1, 0);
        due("nothing is changed: many(4)", x.many(4), 1);
    }

    private static void outlet() {
        says("Promise 12", "UNKNOWN");
        for (int k = 1; k <= 3; k++) {
            CallStages x = new CallStages();
            x.carry(k, 0);
            for (int wrong : new int[] {-1, 1 << k, 8, LEAST, MOST}) due("K " + k + ": outlet(" + wrong + ")", x.outlet(wrong), UNKNOWN);
            due("K " + k + ": the last one", x.outlet((1 << k) - 1), (1 << k) - 1);
        }
    }

    private static void carry() {
        says("Promise 15", "OUTSIDE: k");
        CallStages x = ordered(2, 3, 1, 2, 0);
        for (int wrong : new int[] {0, 4, -1, 32, LEAST, MOST}) {
            due("carry(" + wrong + ", 0)", x.carry(wrong, 0), OUTSIDE);
            due("carry(" + wrong + ", 1)", x.carry(wrong, 1), OUTSIDE);
        }
        says("Promise 15", "a bit beyond its PAIRS (1, 6, 20 of them)");
        int[] pairs = {0, 1, 6, 20};
        for (int k = 1; k <= 3; k++) {
            for (int bit = pairs[k]; bit < 64; bit++) {
                due("K " + k + ", bit " + bit, x.carry(k, 1L << bit), OUTSIDE);
                due("K " + k + ", bit " + bit + " and bit 0", x.carry(k, 1L << bit | 1), OUTSIDE);
            }
            due("K " + k + ", all bits", x.carry(k, -1), OUTSIDE);
        }
        dueOrder("nothing is changed", x, 3, 1, 2, 0);
        for (int k = 1; k <= 3; k++) {
            due("K " + k + ", the last bit", x.carry(k, 1L << pairs[k] - 1), 1 << k);
            due("K " + k + ", all of its bits", x.carry(k, (1L << pairs[k]) - 1), 1 << k);
        }
    }

    private static void line() {
        says("Promise 16", "UNKNOWN");
        for (int k = 1; k <= 3; k++) {
            CallStages x = new CallStages();
            x.carry(k, 0);
            for (int wrong : new int[] {-1, 1 << k, LEAST, MOST}) due("K " + k + ": line(" + wrong + ", 0)", x.line(wrong, 0), UNKNOWN);
            for (int wrong : new int[] {-1, k, LEAST, MOST}) due("K " + k + ": line(0, " + wrong + ")", x.line(0, wrong), UNKNOWN);
            due("K " + k + ": the last inlet, the last row", x.line((1 << k) - 1, k - 1), (1 << k) - 1);
        }
    }

    private static void clash() {
        says("Promise 17", "the first row behind which they do");
        CallStages x = ordered(3, 0, 2, 4, 6, 1, 3, 5, 7);
        due("they are at one line behind row 0", x.line(0, 0), x.line(4, 0));
        due("and behind row 1", x.line(0, 1), x.line(4, 1));
        due("clash(0, 4)", x.clash(0, 4), 0);
        due("clash(4, 0)", x.clash(4, 0), 0);
        says("Promise 17", "NONE");
        due("clash(0, 1)", x.clash(0, 1), NONE);
        due("of two: clash(0, 1)", new CallStages().clash(0, 1), NONE);
        says("Promise 17", "UNKNOWN");
        for (int wrong : new int[] {-1, 8, LEAST, MOST}) {
            due("clash(" + wrong + ", 0)", x.clash(wrong, 0), UNKNOWN);
            due("clash(0, " + wrong + ")", x.clash(0, wrong), UNKNOWN);
            due("ahead of STATE: clash(" + wrong + ", " + wrong + ")", x.clash(wrong, wrong), UNKNOWN);
        }
        says("Promise 17", "STATE: both are one");
        for (int i = 0; i < 8; i++) due("clash(" + i + ", " + i + ")", x.clash(i, i), STATE);
    }

    private static void round() {
        says("Promise 19", "UNKNOWN");
        for (int k = 1; k <= 3; k++) {
            CallStages x = new CallStages();
            x.carry(k, 0);
            for (int wrong : new int[] {-1, 1 << k, LEAST, MOST}) due("K " + k + ": round(" + wrong + ")", x.round(wrong), UNKNOWN);
            due("K " + k + ": the last one", x.round((1 << k) - 1), 0);
        }
        CallStages x = ordered(3, 0, 2, 1, 3, 4, 5, 6, 7);
        due("round(2)", x.round(2), 1);
        x.carry(1, 0);
        due("another ORDER: round(1)", x.round(1), 0);
        due("another ORDER: round(2)", x.round(2), UNKNOWN);
    }
}
