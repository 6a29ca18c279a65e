/** Promises 26 to 33: traffic through a crossbar, and the queues at its inlets. */
public final class CrossbarTest {
    private static final int UNKNOWN = -1, OUTSIDE = -2, NONE = -9;
    private static final int NULL = -11, CAST = -12, INDEX = -13;
    private static final int LEAST = Integer.MIN_VALUE, MOST = Integer.MAX_VALUE;
    private static final int BY_SUM = 0, BY_TURNS = 1, CROSSWISE = 2;
    private static final Due DUE = new Due("CrossbarTest");

    public static void main(String[] args) {
        bar();
        traffic();
        span();
        partedInThree();
        partedServesFullLines();
        partedNoneBehindAll();
        partedRefused();
        partedIsDoneAgain();
        longestParting();
        partedWhereOutletZeroWaits();
        slotBySum();
        slotBySumTakesTheFirst();
        slotByTurns();
        slotByTurnsThreeTimes();
        slotCrosswise();
        slotRefused();
        queueRefused();
        waiting();
        DUE.end();
    }

    private static void due(String call, long got, long want) {
        DUE.due(call, got, want);
    }

    private static CallStages barred(int p) {
        CallStages x = new CallStages();
        x.bar(p);
        return x;
    }

    private static void send(CallStages x, int[]... table) {
        for (int i = 0; i < table.length; i++) {
            for (int o = 0; o < table.length; o++) x.traffic(i, o, table[i][o]);
        }
    }

    /** A slot into which these come, by a sheet of ints. */
    private static int slot(CallStages x, int rule, int... comes) {
        x.sheet(0, 2, comes.length);
        for (int i = 0; i < comes.length; i++) x.put(0, i, comes[i]);
        return x.slot(rule, 0, 2, 0);
    }

    private static void dueMatched(String what, CallStages x, int... outlets) {
        for (int i = 0; i < outlets.length; i++) due(what + ": queue(" + i + ", 0, 1)", x.queue(i, 0, 1), outlets[i]);
    }

    private static void bar() {
        CallStages x = new CallStages();
        due("bar(5)", x.bar(5), 3);
        due("bar(1)", x.bar(1), 5);
        for (int wrong : new int[] {0, 6, -1, LEAST, MOST}) due("bar(" + wrong + ")", x.bar(wrong), OUTSIDE);
        due("nothing is changed: many(3)", x.many(3), 1);
        due("bar(2)", x.bar(2), 1);
        x.traffic(0, 1, 7);
        slot(x, BY_TURNS, 0, 0);
        due("queue(1, 0, 0)", x.queue(1, 0, 0), 1);
        due("queue(0, 0, 2)", x.queue(0, 0, 2), 1);
        due("queue(0, 0, 3)", x.queue(0, 0, 3), 1);
        due("refused: bar(9)", x.bar(9), OUTSIDE);
        due("nothing is changed: span()", x.span(), 7);
        due("nothing is changed: waiting()", x.waiting(), 1);
        due("bar(2)", x.bar(2), 2);
        due("span()", x.span(), 0);
        due("changes()", x.changes(), 0);
        due("traffic(0, 1, 0)", x.traffic(0, 1, 0), 0);
        due("waiting()", x.waiting(), 0);
        due("queue(1, 0, 0)", x.queue(1, 0, 0), 0);
        due("queue(0, 0, 2)", x.queue(0, 0, 2), 0);
        due("queue(0, 0, 3)", x.queue(0, 0, 3), 0);
        x.traffic(1, 1, 9);
        due("a smaller one", x.bar(1), 2);
        due("a greater one", x.bar(3), 1);
        due("span()", x.span(), 0);
    }

    private static void traffic() {
        CallStages x = barred(5);
        due("traffic(4, 0, 50)", x.traffic(4, 0, 50), 0);
        due("traffic(4, 0, 0)", x.traffic(4, 0, 0), 50);
        due("traffic(4, 0, 3)", x.traffic(4, 0, 3), 0);
        int[][] unknown = {{-1, 0, 1}, {5, 0, 1}, {0, -1, 1}, {0, 5, 1}, {5, 5, 99}, {LEAST, MOST, 1}};
        for (int[] w : unknown) due("traffic(" + w[0] + ", " + w[1] + ", " + w[2] + ")", x.traffic(w[0], w[1], w[2]), UNKNOWN);
        for (int wrong : new int[] {-1, 51, LEAST, MOST}) due("traffic(4, 0, " + wrong + ")", x.traffic(4, 0, wrong), OUTSIDE);
        due("nothing is changed: traffic(4, 0, 3)", x.traffic(4, 0, 3), 3);
        due("the queues are others: waiting()", x.waiting(), 0);
        due("bar(4)", x.bar(4), 5);
        due("traffic(4, 0, 1)", x.traffic(4, 0, 1), UNKNOWN);
    }

    private static void span() {
        CallStages x = new CallStages();
        send(x, new int[] {1, 2, 3}, new int[] {0, 0, 4}, new int[] {0, 0, 0});
        due("a column", x.span(), 7);
        x.traffic(0, 0, 4);
        due("a row", x.span(), 9);
        x.traffic(1, 2, 0);
        due("a row alone", x.span(), 9);
        x = barred(5);
        for (int o = 0; o < 5; o++) x.traffic(3, o, 50);
        due("the greatest", x.span(), 250);
    }

    private static void dueRound(String what, CallStages x, int k, int... outlets) {
        for (int i = 0; i < outlets.length; i++) due(what + ": parted(" + k + ", " + i + ")", x.parted(k, i), outlets[i]);
    }

    private static void partedInThree() {
        CallStages x = new CallStages();
        send(x, new int[] {2, 1, 0}, new int[] {0, 3, 1}, new int[] {1, 0, 2});
        due("span()", x.span(), 4);
        dueRound("three", x, 0, 0, 1, 2);
        dueRound("three", x, 1, 0, 1, 2);
        dueRound("three", x, 2, 1, 2, 0);
        dueRound("three", x, 3, NONE, 1, NONE);
        due("changes()", x.changes(), 3);
        due("the traffic stays", x.traffic(0, 0, 2), 2);
    }

    /** All lines have as much as SPAN: inlet 1 leaves outlet 1, which comes first for it, to inlet 2, which has no 2. */
    private static void partedServesFullLines() {
        CallStages x = new CallStages();
        send(x, new int[] {1, 0, 2}, new int[] {1, 1, 1}, new int[] {1, 2, 0});
        due("span()", x.span(), 3);
        dueRound("full lines", x, 0, 0, 2, 1);
        dueRound("full lines", x, 1, 2, 0, 1);
        dueRound("full lines", x, 2, 2, 1, 0);
        due("changes()", x.changes(), 3);
        x = barred(2);
        send(x, new int[] {1, 2}, new int[] {3, 0});
        due("span()", x.span(), 4);
        dueRound("outlet 0 alone is full", x, 0, 0, NONE);
        dueRound("inlet 1, too", x, 1, 1, 0);
        dueRound("inlet 1, too", x, 2, 1, 0);
        dueRound("one is left", x, 3, NONE, 0);
        due("changes()", x.changes(), 3);
    }

    /** Neither inlet 1 nor outlet 1 has as much as SPAN: they are served all the same, as the row comes first. */
    private static void partedNoneBehindAll() {
        CallStages x = barred(2);
        send(x, new int[] {3, 0}, new int[] {0, 1});
        dueRound("none behind all", x, 0, 0, 1);
        dueRound("none behind all", x, 1, 0, NONE);
        dueRound("none behind all", x, 2, 0, NONE);
        due("changes()", x.changes(), 2);
    }

    private static void partedRefused() {
        CallStages x = new CallStages();
        due("no traffic: parted(0, 0)", x.parted(0, 0), UNKNOWN);
        x.traffic(0, 2, 2);
        due("parted(1, 0)", x.parted(1, 0), 2);
        due("parted(1, 2)", x.parted(1, 2), NONE);
        int[][] wrong = {{2, 0}, {-1, 0}, {0, -1}, {0, 3}, {LEAST, 0}, {0, MOST}, {MOST, LEAST}};
        for (int[] w : wrong) due("parted(" + w[0] + ", " + w[1] + ")", x.parted(w[0], w[1]), UNKNOWN);
    }

    private static void partedIsDoneAgain() {
        CallStages x = barred(2);
        x.traffic(0, 0, 1);
        dueRound("one", x, 0, 0, NONE);
        due("changes()", x.changes(), 1);
        x.traffic(0, 0, 0);
        due("none: changes()", x.changes(), 0);
        due("none: parted(0, 0)", x.parted(0, 0), UNKNOWN);
        x.traffic(1, 0, 2);
        dueRound("another", x, 0, NONE, 0);
        dueRound("another", x, 1, NONE, 0);
        due("changes()", x.changes(), 1);
        x.bar(1);
        due("behind bar(): changes()", x.changes(), 0);
        x.traffic(0, 0, 5);
        due("behind bar(): changes()", x.changes(), 1);
        due("behind bar(): parted(4, 0)", x.parted(4, 0), 0);
    }

    private static void longestParting() {
        CallStages x = barred(5);
        for (int i = 0; i < 5; i++) for (int o = 0; o < 5; o++) x.traffic(i, o, 50);
        due("span()", x.span(), 250);
        dueRound("all full", x, 0, 0, 1, 2, 3, 4);
        dueRound("all full", x, 49, 0, 1, 2, 3, 4);
        dueRound("all full", x, 50, 1, 0, 3, 4, 2);
        int[] sum = new int[25];
        for (int k = 0; k < 80; k++) for (int i = 0; i < 5; i++) sum[i * 5 + x.parted(k * 3, i)]++;
        for (int cell = 0; cell < 25; cell++) due("one of three rounds, cell " + cell, sum[cell] > 0 ? 1 : 0, 1);
        due("parted(250, 0)", x.parted(250, 0), UNKNOWN);
    }

    /** Outlet 0 must be served, or comes up to SPAN, though all that have something for it come first elsewhere. */
    private static void partedWhereOutletZeroWaits() {
        dueAsTried(new int[] {1, 1, 1, 1, 1}, new int[] {1, 0, 1, 0, 1}, new int[] {1, 1, 1, 1, 1}, new int[] {1, 1, 1, 0, 0},
            new int[] {1, 1, 1, 1, 1});
        dueAsTried(new int[] {0, 2, 5, 4, 0}, new int[] {0, 0, 0, 3, 0}, new int[] {4, 3, 0, 0, 5}, new int[] {5, 0, 1, 1, 5},
            new int[] {2, 0, 0, 4, 0});
    }

    private static void dueAsTried(int[]... table) {
        CallStages x = barred(table.length);
        send(x, table);
        SlowStages slow = new SlowStages();
        slow.bar(table.length);
        for (int i = 0; i < table.length; i++) for (int o = 0; o < table.length; o++) slow.traffic(i, o, table[i][o]);
        for (int k = 0; k < slow.span(); k++) {
            for (int i = 0; i < table.length; i++) due("parted(" + k + ", " + i + ")", x.parted(k, i), slow.parted(k, i));
        }
        due("changes()", x.changes(), slow.changes());
    }

    private static void slotBySum() {
        CallStages x = new CallStages();
        due("all to 0", slot(x, BY_SUM, 0, 0, 0), 1);
        dueMatched("all to 0", x, 0, NONE, NONE);
        due("waiting()", x.waiting(), 2);
        due("queue(1, 0, 0)", x.queue(1, 0, 0), 1);
        due("the longer queue", slot(x, BY_SUM, 1, 0, 1), 2);
        dueMatched("the longer queue", x, 1, 0, NONE);
        due("queue(0, 1, 0)", x.queue(0, 1, 0), 0);
        due("queue(1, 0, 0)", x.queue(1, 0, 0), 1);
        due("queue(2, 0, 0)", x.queue(2, 0, 0), 1);
        due("queue(2, 1, 0)", x.queue(2, 1, 0), 1);
        due("pointers stay", x.queue(0, 0, 2), 0);
        due("pointers stay", x.queue(0, 0, 3), 0);
        due("nothing comes", slot(x, BY_SUM, -1, -1, -1), 2);
        dueMatched("nothing comes", x, NONE, 0, 1);
        due("one is left", slot(x, BY_SUM, -1, -1, -1), 1);
        dueMatched("one is left", x, NONE, NONE, 0);
        due("nothing is there", slot(x, BY_SUM, -1, -1, -1), 0);
        dueMatched("nothing is there", x, NONE, NONE, NONE);
    }

    /** One long queue outweighs two short ones; among even sums the first row is taken. */
    private static void slotBySumTakesTheFirst() {
        CallStages x = barred(2);
        for (int time = 0; time < 4; time++) slot(x, CROSSWISE, 0, 0);
        due("queue(1, 0, 0)", x.queue(1, 0, 0), 4);
        slot(x, CROSSWISE, 0, -1);
        due("inlet 1 has 4 for outlet 0", x.queue(1, 0, 0), 4);
        due("0 comes for 0, 1 for 1", slot(x, BY_SUM, 0, 1), 1);
        dueMatched("the one long queue", x, NONE, 0);
        due("queue(1, 1, 0)", x.queue(1, 1, 0), 1);
        x = barred(3);
        slot(x, CROSSWISE, 0, 0, 0);
        slot(x, CROSSWISE, 0, 1, 1);
        due("queue(2, 1, 0)", x.queue(2, 1, 0), 1);
        due("even sums", slot(x, BY_SUM, -1, -1, -1), 2);
        dueMatched("even sums", x, NONE, 0, 1);
    }

    private static void slotByTurns() {
        CallStages x = new CallStages();
        due("all to 0", slot(x, BY_TURNS, 0, 0, 0), 1);
        dueMatched("all to 0", x, 0, NONE, NONE);
        due("inlet 0's pointer", x.queue(0, 0, 2), 1);
        due("outlet 0's pointer", x.queue(0, 0, 3), 1);
        due("inlet 1's pointer", x.queue(1, 0, 2), 0);
        due("all to 0 again", slot(x, BY_TURNS, 0, 0, 0), 1);
        dueMatched("from the pointer on", x, NONE, 0, NONE);
        due("outlet 0's pointer", x.queue(0, 0, 3), 2);
        due("inlet 1's pointer", x.queue(1, 0, 2), 1);
        due("and once more", slot(x, BY_TURNS, -1, -1, -1), 1);
        dueMatched("the last one's turn", x, NONE, NONE, 0);
        due("0 behind the last", x.queue(0, 0, 3), 0);
        due("inlet 2's pointer", x.queue(2, 0, 2), 1);
        due("to the last outlet", slot(x, BY_TURNS, 2, -1, -1), 2);
        dueMatched("to the last outlet", x, 2, 0, NONE);
        due("inlet 0's pointer, 0 behind the last", x.queue(0, 0, 2), 0);
        due("outlet 2's pointer", x.queue(2, 0, 3), 1);
    }

    /** Each inlet has one for each outlet from its own number on: all outlets that are left take the same inlet. */
    private static void slotByTurnsThreeTimes() {
        CallStages x = barred(4);
        int[][] comes = {{1, 1, 2, 3}, {2, 1, 2, 3}, {3, 1, 2, 3}, {0, 2, 2, 3}, {0, 3, 2, 3}, {0, 1, 3, 3}};
        for (int[] one : comes) due("crosswise: three are served", slot(x, CROSSWISE, one), 3);
        due("waiting()", x.waiting(), 6);
        due("by turns", slot(x, BY_TURNS, 0, 1, 2, 3), 3);
        dueMatched("three times", x, 0, 1, 2, NONE);
        int[] pointers = {1, 0, 0, 0};
        for (int i = 0; i < 4; i++) {
            due("those of the first time alone go on: queue(" + i + ", 0, 2)", x.queue(i, 0, 2), pointers[i]);
            due("those of the first time alone go on: queue(" + i + ", 0, 3)", x.queue(i, 0, 3), pointers[i]);
        }
        due("queue(3, 3, 0)", x.queue(3, 3, 0), 1);
    }

    private static void slotCrosswise() {
        CallStages x = new CallStages();
        due("straight ones first", slot(x, CROSSWISE, 0, 0, 0), 1);
        dueMatched("straight ones first", x, 0, NONE, NONE);
        due("1 and 2 have one for 0", slot(x, CROSSWISE, 1, 1, 2), 2);
        dueMatched("straight ones first", x, NONE, 1, 2);
        due("d 1: 0 to 1, 2 to 0", slot(x, CROSSWISE, -1, -1, -1), 2);
        dueMatched("d 1: 0 to 1, 2 to 0", x, 1, NONE, 0);
        due("d 2: 1 to 0", slot(x, CROSSWISE, -1, -1, -1), 1);
        dueMatched("d 2: 1 to 0", x, NONE, 0, NONE);
        due("pointers stay", x.queue(0, 0, 2), 0);
        due("pointers stay", x.queue(0, 0, 3), 0);
        due("waiting()", x.waiting(), 0);
    }

    private static void slotRefused() {
        CallStages x = new CallStages();
        slot(x, CROSSWISE, 1, 1, 1);
        x.sheet(1, 1, 3);
        due("slot(9, 4, 9, 9), UNKNOWN first", x.slot(9, 4, 9, 9), UNKNOWN);
        due("slot(0, -1, 0, 0)", x.slot(0, -1, 0, 0), UNKNOWN);
        for (int wrong : new int[] {-1, 3, LEAST, MOST}) {
            due("lane: slot(0, 1, " + wrong + ", 0)", x.slot(0, 1, wrong, 0), OUTSIDE);
            due("rule: slot(" + wrong + ", 1, 0, 0)", x.slot(wrong, 1, 0, 0), OUTSIDE);
            due("rule: slot(" + wrong + ", 2, 0, 0)", x.slot(wrong, 2, 0, 0), OUTSIDE);
        }
        due("slot(0, 1, 0, 9), CAST ahead of INDEX", x.slot(0, 1, 0, 9), CAST);
        due("fault()", x.fault(), 2);
        due("slot(0, 2, 0, 9), NULL", x.slot(0, 2, 0, 9), NULL);
        due("fault()", x.fault(), 1);
        x.put(1, 0, 7);
        for (int wrong : new int[] {1, -1, 3, 4, LEAST, MOST}) {
            due("INDEX ahead of a cell: slot(0, 1, 1, " + wrong + ")", x.slot(0, 1, 1, wrong), INDEX);
            due("fault()", x.fault(), 3);
        }
        for (int wrong : new int[] {7, 3, -2}) {
            x.put(1, 0, wrong);
            due("a cell " + wrong, x.slot(0, 1, 1, 0), OUTSIDE);
            due("refused: fault()", x.fault(), 0);
        }
        dueMatched("nothing is changed", x, NONE, 1, NONE);
        due("nothing is changed: waiting()", x.waiting(), 2);
        due("queue(0, 1, 0)", x.queue(0, 1, 0), 1);
        x.bar(2);
        due("from 1 on: slot(2, 1, 1, 1)", x.slot(2, 1, 1, 1), 1);
        dueMatched("from 1 on", x, 0, NONE);
        due("fault()", x.fault(), 0);
    }

    private static void queueRefused() {
        CallStages x = new CallStages();
        for (int wrong : new int[] {-1, 4, LEAST, MOST}) {
            due("OUTSIDE first: queue(9, 9, " + wrong + ")", x.queue(9, 9, wrong), OUTSIDE);
        }
        for (int wrong : new int[] {-1, 3, LEAST, MOST}) {
            for (int what = 0; what < 4; what++) {
                due("queue(" + wrong + ", 0, " + what + ")", x.queue(wrong, 0, what), UNKNOWN);
            }
            due("queue(0, " + wrong + ", 0)", x.queue(0, wrong, 0), UNKNOWN);
            due("o is not looked at: queue(0, " + wrong + ", 1)", x.queue(0, wrong, 1), NONE);
            due("o is not looked at: queue(0, " + wrong + ", 2)", x.queue(0, wrong, 2), 0);
            due("o is not looked at: queue(0, " + wrong + ", 3)", x.queue(0, wrong, 3), 0);
        }
    }

    private static void waiting() {
        CallStages x = barred(5);
        for (int time = 1; time <= 5; time++) {
            due("one of five is served", slot(x, time % 3, 2, 2, 2, 2, 2), 1);
            due("waiting()", x.waiting(), 4 * time);
        }
        for (int time = 19; time >= 0; time--) {
            due("one is served", slot(x, time % 3, -1, -1, -1, -1, -1), 1);
            due("waiting()", x.waiting(), time);
        }
    }
}
