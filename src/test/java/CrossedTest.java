/** Promises 11 to 19: nets of crossed pairs, and the half that finds its own way. */
public final class CrossedTest {
    private static final int UNKNOWN = -1, OUTSIDE = -2, STATE = -3, NONE = -9;
    private static final int NULL = -11, CAST = -12, INDEX = -13;
    private static final int LEAST = Integer.MIN_VALUE, MOST = Integer.MAX_VALUE;
    private static final Due DUE = new Due("CrossedTest");

    public static void main(String[] args) {
        orderTaken();
        orderRefused();
        outlet();
        carry();
        carryRefused();
        waysAndFirst();
        waysOfAllOrders();
        firstCarriesIt();
        line();
        clash();
        roundsOfFour();
        roundsOfEight();
        DUE.end();
    }

    private static void due(String call, long got, long want) {
        DUE.due(call, got, want);
    }

    private static void dueOrder(String what, CallStages x, int... outlets) {
        for (int i = 0; i < outlets.length; i++) due(what + ": outlet(" + i + ")", x.outlet(i), outlets[i]);
        due(what + ": outlet(" + outlets.length + ")", x.outlet(outlets.length), UNKNOWN);
    }

    private static void lay(CallStages x, int sheet, int lane, int from, int... cells) {
        x.sheet(sheet, lane, from + cells.length);
        for (int i = 0; i < cells.length; i++) x.put(sheet, from + i, cells[i]);
    }

    private static CallStages ordered(int k, int... outlets) {
        CallStages x = new CallStages();
        lay(x, 0, 2, 0, outlets);
        due("order(" + k + ", 0, 2, 0)", x.order(k, 0, 2, 0), 1 << k);
        return x;
    }

    private static void orderTaken() {
        dueOrder("K 1", ordered(1, 1, 0), 1, 0);
        dueOrder("K 2", ordered(2, 2, 0, 3, 1), 2, 0, 3, 1);
        dueOrder("K 3", ordered(3, 7, 3, 5, 1, 6, 2, 4, 0), 7, 3, 5, 1, 6, 2, 4, 0);
        for (int lane = 0; lane < 3; lane++) {
            CallStages x = new CallStages();
            lay(x, 3, lane, 2, 3, 2, 1, 0, 9);
            due("from 2 on, order(2, 3, " + lane + ", 2)", x.order(2, 3, lane, 2), 4);
            dueOrder("from 2 on", x, 3, 2, 1, 0);
            due("many(4)", x.many(4), 2);
            x.put(3, 2, 0);
            dueOrder("a cell that changes is no part of it", x, 3, 2, 1, 0);
        }
    }

    private static void orderRefused() {
        CallStages x = ordered(1, 1, 0);
        lay(x, 1, 1, 0, 0, 1, 2, 3);
        due("order(2, -1, 9, 0), UNKNOWN first", x.order(2, -1, 9, 0), UNKNOWN);
        due("order(2, 4, 1, 0)", x.order(2, 4, 1, 0), UNKNOWN);
        for (int wrong : new int[] {-1, 3, LEAST, MOST}) {
            due("order(2, 1, " + wrong + ", 0)", x.order(2, 1, wrong, 0), OUTSIDE);
        }
        for (int wrong : new int[] {0, 4, -1, LEAST, MOST, 33}) {
            due("order(" + wrong + ", 1, 0, 0), OUTSIDE ahead of CAST", x.order(wrong, 1, 0, 0), OUTSIDE);
        }
        due("order(2, 1, 0, 9), CAST ahead of INDEX", x.order(2, 1, 0, 9), CAST);
        due("fault()", x.fault(), 2);
        due("order(2, 1, 2, 0)", x.order(2, 1, 2, 0), CAST);
        due("order(2, 2, 0, 9), NULL", x.order(2, 2, 0, 9), NULL);
        due("fault()", x.fault(), 1);
        for (int wrong : new int[] {1, -1, 4, 5, LEAST, MOST, MOST - 2}) {
            due("order(2, 1, 1, " + wrong + ")", x.order(2, 1, 1, wrong), INDEX);
            due("fault()", x.fault(), 3);
        }
        due("order(3, 1, 1, 0), too few cells", x.order(3, 1, 1, 0), INDEX);
        x.put(1, 3, 0);
        due("no order, 0 twice", x.order(2, 1, 1, 0), OUTSIDE);
        due("refused: fault()", x.fault(), 0);
        x.put(1, 3, 4);
        due("no order, 4", x.order(2, 1, 1, 0), OUTSIDE);
        x.put(1, 3, -1);
        due("no order, -1", x.order(2, 1, 1, 0), OUTSIDE);
        x.put(1, 3, 35);
        due("no order, 35", x.order(2, 1, 1, 0), OUTSIDE);
        dueOrder("nothing is changed", x, 1, 0);
        due("nothing is changed: many(4)", x.many(4), 1);
        due("order(1, 1, 1, 0), what follows is not taken", x.order(1, 1, 1, 0), 2);
        due("fault()", x.fault(), 0);
        dueOrder("straight", x, 0, 1);
    }

    private static void outlet() {
        CallStages x = ordered(3, 0, 1, 2, 3, 4, 5, 7, 6);
        due("outlet(6)", x.outlet(6), 7);
        for (int wrong : new int[] {-1, 8, LEAST, MOST}) due("outlet(" + wrong + ")", x.outlet(wrong), UNKNOWN);
    }

    private static void carry() {
        CallStages x = new CallStages();
        due("carry(1, 1)", x.carry(1, 1), 2);
        dueOrder("crossed", x, 1, 0);
        due("carry(1, 0)", x.carry(1, 0), 2);
        dueOrder("straight", x, 0, 1);
        due("carry(2, 0)", x.carry(2, 0), 4);
        dueOrder("all straight", x, 0, 1, 2, 3);
        x.carry(2, 1);
        dueOrder("first row, pair 0", x, 1, 0, 2, 3);
        x.carry(2, 2);
        dueOrder("first row, pair 1", x, 0, 1, 3, 2);
        x.carry(2, 4);
        dueOrder("last row, pair 0", x, 1, 0, 2, 3);
        x.carry(2, 16);
        dueOrder("first inner net", x, 2, 1, 0, 3);
        x.carry(2, 32);
        dueOrder("second inner net", x, 0, 3, 2, 1);
        x.carry(2, 1 | 16);
        dueOrder("first row, pair 0, and first inner net", x, 1, 2, 0, 3);
        x.carry(2, 4 | 16);
        dueOrder("last row, pair 0, and first inner net", x, 2, 0, 1, 3);
        due("carry(3, 1 << 8)", x.carry(3, 1 << 8), 8);
        dueOrder("first inner net's first pair", x, 2, 1, 0, 3, 4, 5, 6, 7);
        x.carry(3, 1 << 14);
        dueOrder("second inner net's first pair", x, 0, 3, 2, 1, 4, 5, 6, 7);
        x.carry(3, 1 << 19);
        dueOrder("second inner net's last pair", x, 0, 1, 2, 7, 4, 5, 6, 3);
        x.carry(3, 1 << 7);
        dueOrder("last row, pair 3", x, 0, 1, 2, 3, 4, 5, 7, 6);
        due("many(4)", x.many(4), 3);
    }

    private static void carryRefused() {
        CallStages x = ordered(2, 3, 1, 2, 0);
        long[][] wrong = {{0, 0}, {4, 0}, {-1, 0}, {LEAST, 0}, {MOST, 1}, {1, 2}, {2, 64}, {3, 1 << 20}, {1, -1}, {3, -1},
            {3, Long.MIN_VALUE}, {2, 1L << 32}, {3, Long.MAX_VALUE}, {1, 1L << 63}};
        for (long[] w : wrong) due("carry(" + w[0] + ", " + w[1] + ")", x.carry((int) w[0], w[1]), OUTSIDE);
        dueOrder("nothing is changed", x, 3, 1, 2, 0);
        due("carry(3, all)", x.carry(3, (1 << 20) - 1), 8);
        due("carry(2, all)", x.carry(2, 63), 4);
        due("carry(1, all)", x.carry(1, 1), 2);
    }

    private static void waysAndFirst() {
        CallStages x = new CallStages();
        due("K 1: ways()", x.ways(), 1);
        due("K 1: first()", x.first(), 0);
        x = ordered(1, 1, 0);
        due("K 1 crossed: ways()", x.ways(), 1);
        due("K 1 crossed: first()", x.first(), 1);
        x = ordered(2, 0, 1, 2, 3);
        due("K 2 straight: ways()", x.ways(), 4);
        due("K 2 straight: first()", x.first(), 0);
        x = ordered(2, 1, 0, 2, 3);
        due("K 2: first()", x.first(), 1);
        x = ordered(2, 2, 0, 3, 1);
        due("K 2: ways()", x.ways(), 2);
        due("K 2: first()", x.first(), 22);
        x = ordered(3, 7, 6, 5, 4, 3, 2, 1, 0);
        due("K 3 turned round: ways()", x.ways(), 256);
        due("K 3 turned round: first()", x.first(), 848655);
        x = ordered(3, 0, 4, 1, 5, 2, 6, 3, 7);
        due("K 3 shuffled: ways()", x.ways(), 16);
        due("K 3 shuffled: first()", x.first(), 333670);
    }

    /** All settings are told apart by the orders that they carry: the ways of all orders are all settings. */
    private static void waysOfAllOrders() {
        long all = 0;
        for (int number = 0; number < 256; number++) {
            int[] row = {number & 3, number >> 2 & 3, number >> 4 & 3, number >> 6 & 3};
            CallStages x = new CallStages();
            lay(x, 0, 0, 0, row);
            if (x.order(2, 0, 0, 0) == 4) all += x.ways();
        }
        due("K 2: the ways of all orders", all, 64);
    }

    private static void firstCarriesIt() {
        for (int start = 0; start < 40; start++) {
            CallStages x = new CallStages();
            for (int step = 0; step < 10; step++) {
                long settings = (start * 10007L + step * 104729L) * 31 & (1 << 20) - 1;
                x.carry(3, settings);
                int[] row = new int[8];
                for (int i = 0; i < 8; i++) row[i] = x.outlet(i);
                long first = x.first();
                due("first() is not above " + settings, first <= settings ? 1 : 0, 1);
                due("ways() of " + settings + " is above 0", x.ways() > 0 ? 1 : 0, 1);
                x.carry(3, first);
                dueOrder("carried by " + first, x, row);
                due("first() of " + first, x.first(), first);
            }
        }
    }

    private static void line() {
        CallStages x = ordered(2, 2, 0, 3, 1);
        int[][] lines = {{1, 2}, {2, 0}, {1, 3}, {2, 1}};
        for (int i = 0; i < 4; i++) {
            for (int j = 0; j < 2; j++) due("K 2: line(" + i + ", " + j + ")", x.line(i, j), lines[i][j]);
        }
        x = ordered(3, 7, 6, 5, 4, 3, 2, 1, 0);
        int[][] turned = {{1, 3, 7}, {3, 7, 6}, {5, 2, 5}, {7, 6, 4}, {0, 1, 3}, {2, 5, 2}, {4, 0, 1}, {6, 4, 0}};
        for (int i = 0; i < 8; i++) {
            for (int j = 0; j < 3; j++) due("K 3: line(" + i + ", " + j + ")", x.line(i, j), turned[i][j]);
        }
        int[][] wrong = {{-1, 0}, {8, 0}, {0, -1}, {0, 3}, {LEAST, 0}, {0, MOST}};
        for (int[] w : wrong) due("line(" + w[0] + ", " + w[1] + ")", x.line(w[0], w[1]), UNKNOWN);
        due("K 1: line(0, 1)", new CallStages().line(0, 1), UNKNOWN);
        due("K 1: line(1, 0)", new CallStages().line(1, 0), 1);
    }

    private static void clash() {
        CallStages x = ordered(2, 0, 2, 1, 3);
        due("clash(0, 2)", x.clash(0, 2), 0);
        due("clash(2, 0)", x.clash(2, 0), 0);
        due("clash(1, 3)", x.clash(1, 3), 0);
        due("clash(0, 1)", x.clash(0, 1), NONE);
        due("clash(2, 3)", x.clash(2, 3), NONE);
        due("clash(1, 1)", x.clash(1, 1), STATE);
        due("clash(4, 4), UNKNOWN first", x.clash(4, 4), UNKNOWN);
        due("clash(0, 4)", x.clash(0, 4), UNKNOWN);
        due("clash(-1, 0)", x.clash(-1, 0), UNKNOWN);
        due("clash(LEAST, MOST)", x.clash(LEAST, MOST), UNKNOWN);
        x = ordered(3, 0, 2, 1, 3, 4, 5, 6, 7);
        due("behind the second row, clash(0, 2)", x.clash(0, 2), 1);
        due("clash(0, 4)", x.clash(0, 4), NONE);
    }

    private static void dueRounds(String what, CallStages x, int rounds, int... sets) {
        due(what + ": rounds()", x.rounds(), rounds);
        for (int i = 0; i < sets.length; i++) due(what + ": round(" + i + ")", x.round(i), sets[i]);
    }

    private static void roundsOfFour() {
        dueRounds("K 1", ordered(1, 1, 0), 1, 0, 0);
        dueRounds("straight", ordered(2, 0, 1, 2, 3), 1, 0, 0, 0, 0);
        CallStages x = ordered(2, 0, 2, 1, 3);
        dueRounds("two clash twice", x, 2, 0, 0, 1, 1);
        for (int wrong : new int[] {-1, 4, LEAST, MOST}) due("round(" + wrong + ")", x.round(wrong), UNKNOWN);
    }

    /** In the second one 0 clashes with 2, 2 with 6, 6 with 4, 4 with 0: sets by turns. */
    private static void roundsOfEight() {
        dueRounds("turned round", ordered(3, 7, 6, 5, 4, 3, 2, 1, 0), 1, 0, 0, 0, 0, 0, 0, 0, 0);
        CallStages x = ordered(3, 0, 4, 1, 5, 2, 6, 3, 7);
        due("clash(0, 4)", x.clash(0, 4), 0);
        due("clash(0, 2)", x.clash(0, 2), 1);
        due("clash(2, 6)", x.clash(2, 6), 0);
        due("clash(4, 6)", x.clash(4, 6), 1);
        due("clash(0, 6)", x.clash(0, 6), NONE);
        dueRounds("shuffled", x, 2, 0, 0, 1, 1, 1, 1, 0, 0);
        x = ordered(3, 0, 2, 1, 3, 4, 5, 6, 7);
        dueRounds("the later one has the second set", x, 2, 0, 0, 1, 1, 0, 0, 0, 0);
    }
}
