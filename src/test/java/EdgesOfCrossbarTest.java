import java.util.Arrays;

/** Traffic and queues of the crossbar: each sentence of the document that names an edge has a test of its own here. */
public final class EdgesOfCrossbarTest {
    private static final int UNKNOWN = -1, OUTSIDE = -2, NONE = -9;
    private static final int LEAST = Integer.MIN_VALUE, MOST = Integer.MAX_VALUE;
    private static final int BY_SUM = 0, BY_TURNS = 1, CROSSWISE = 2;
    private static final Due DUE = new Due("EdgesOfCrossbarTest");

    public static void main(String[] args) {
        howManyPorts();
        trafficTable();
        span();
        partedAsLong();
        partedFullLines();
        partedFirstRow();
        comes();
        bySum();
        byTurnsFromPointers();
        byTurnsThreeTimes();
        crosswise();
        bar();
        traffic();
        parted();
        changes();
        slotRefused();
        slotFaults();
        slotCells();
        queue();
        queueRefused();
        waiting();
        DUE.end();
    }

    private static void says(String where, String words) {
        DUE.says(where, words);
    }

    private static void due(String call, long got, long want) {
        DUE.due(call, got, want);
    }

    private static CallStages barred(int p) {
        CallStages x = new CallStages();
        x.bar(p);
        return x;
    }

    private static CallStages sent(int[]... table) {
        CallStages x = barred(table.length);
        for (int i = 0; i < table.length; i++) for (int o = 0; o < table.length; o++) x.traffic(i, o, table[i][o]);
        return x;
    }

    private static int slot(CallStages x, int rule, int... comes) {
        x.sheet(0, 2, comes.length);
        for (int i = 0; i < comes.length; i++) x.put(0, i, comes[i]);
        return x.slot(rule, 0, 2, 0);
    }

    private static int emptySlot(CallStages x, int rule) {
        int[] comes = new int[x.many(3)];
        for (int i = 0; i < comes.length; i++) comes[i] = -1;
        return slot(x, rule, comes);
    }

    /**
     * A crossbar with these queues, which are all on one side of the diagonal: column by column it is filled, while each
     * inlet of a filled one sends one straight across, which is served in its place.
     */
    private static CallStages stocked(int[]... table) {
        int p = table.length;
        CallStages x = barred(p);
        boolean below = table[0][p - 1] == 0;
        for (int step = 0; step < p; step++) {
            int column = below ? step : p - 1 - step;
            for (int time = 0; time < 9; time++) stockColumn(x, table, column, below, time);
        }
        for (int i = 0; i < p; i++) for (int o = 0; o < p; o++) due("stocked: queue", x.queue(i, o, 0), table[i][o]);
        return x;
    }

    private static void stockColumn(CallStages x, int[][] table, int column, boolean below, int time) {
        int[] comes = new int[table.length];
        boolean any = false;
        for (int i = 0; i < comes.length; i++) {
            boolean straight = below ? i <= column : i >= column;
            boolean more = !straight && table[i][column] > time;
            comes[i] = straight ? i : more ? column : -1;
            any |= more;
        }
        if (any) slot(x, CROSSWISE, comes);
    }

    private static void dueMatched(String what, CallStages x, int... outlets) {
        for (int i = 0; i < outlets.length; i++) due(what + ": queue(" + i + ", 0, 1)", x.queue(i, 0, 1), outlets[i]);
    }

    private static void duePointers(String what, CallStages x, int of, int... pointers) {
        for (int i = 0; i < pointers.length; i++) due(what + ": queue(" + i + ", 0, " + of + ")", x.queue(i, 0, of), pointers[i]);
    }

    private static void dueRounds(String what, CallStages x, int[]... rounds) {
        due(what + ": span()", x.span(), rounds.length);
        for (int k = 0; k < rounds.length; k++) {
            for (int i = 0; i < rounds[k].length; i++) due(what + ": parted(" + k + ", " + i + ")", x.parted(k, i), rounds[k][i]);
        }
    }

    private static void howManyPorts() {
        says("Terms 4", "P (1 .. 5; 3 at first) inlets, outlets");
        CallStages x = new CallStages();
        due("at first: many(3)", x.many(3), 3);
        due("at first: traffic(2, 2, 1)", x.traffic(2, 2, 1), 0);
        due("at first: traffic(3, 0, 1)", x.traffic(3, 0, 1), UNKNOWN);
        due("at first: traffic(0, 3, 1)", x.traffic(0, 3, 1), UNKNOWN);
        due("bar(0)", x.bar(0), OUTSIDE);
        due("bar(6)", x.bar(6), OUTSIDE);
        due("bar(1)", x.bar(1), 3);
        due("of one: traffic(0, 0, 1)", x.traffic(0, 0, 1), 0);
        due("of one: traffic(1, 0, 1)", x.traffic(1, 0, 1), UNKNOWN);
        due("of one: parted(0, 0)", x.parted(0, 0), 0);
        for (int rule = 0; rule < 3; rule++) due("of one: slot", slot(x, rule, 0), 1);
        due("of one: the pointer goes around", x.queue(0, 0, 2), 0);
        due("bar(5)", x.bar(5), 1);
        due("of five: traffic(4, 4, 1)", x.traffic(4, 4, 1), 0);
        due("of five: traffic(5, 4, 1)", x.traffic(5, 4, 1), UNKNOWN);
        due("of five: parted(0, 4)", x.parted(0, 4), 4);
    }

    private static void trafficTable() {
        says("Terms 4", "a table of whole numbers (0 .. 50 each)");
        CallStages x = new CallStages();
        due("traffic(0, 1, 50)", x.traffic(0, 1, 50), 0);
        due("traffic(0, 1, 51)", x.traffic(0, 1, 51), OUTSIDE);
        due("traffic(0, 1, -1)", x.traffic(0, 1, -1), OUTSIDE);
        due("traffic(0, 1, 0)", x.traffic(0, 1, 0), 50);
        due("traffic(0, 1, 0)", x.traffic(0, 1, 0), 0);
    }

    private static void span() {
        says("Terms 4", "SPAN: the greatest sum of a row, a column");
        due("none", new CallStages().span(), 0);
        due("the first row", sent(new int[] {2, 3}, new int[] {0, 0}).span(), 5);
        due("the last row", sent(new int[] {0, 0}, new int[] {4, 2}).span(), 6);
        due("the first column", sent(new int[] {2, 0}, new int[] {3, 0}).span(), 5);
        due("the last column", sent(new int[] {0, 4}, new int[] {0, 2}).span(), 6);
        due("crosswise: no sum", sent(new int[] {4, 0}, new int[] {0, 3}).span(), 4);
        int[] full = {50, 50, 50, 50, 50};
        CallStages x = sent(full, full, full, full, full);
        due("all of it", x.span(), 250);
        x.traffic(4, 4, 0);
        due("all but one cell", x.span(), 250);
        x = barred(5);
        for (int i = 0; i < 5; i++) x.traffic(i, 4, 50);
        due("the last column of five", x.span(), 250);
    }

    private static void partedAsLong() {
        says("Terms 4", "PARTED into ROUNDS: as long as something is left");
        dueRounds("nothing", new CallStages());
        due("nothing: parted(0, 0)", new CallStages().parted(0, 0), UNKNOWN);
        dueRounds("one cell", sent(new int[] {0, 2}, new int[] {0, 0}), new int[] {1, NONE}, new int[] {1, NONE});
        says("Terms 4", "one is taken off each");
        int[][] table = {{3, 0, 7, 1, 2}, {0, 9, 0, 4, 4}, {6, 1, 1, 0, 8}, {2, 2, 5, 5, 0}, {9, 0, 0, 3, 1}};
        CallStages x = sent(table);
        int span = x.span();
        due("span()", span, 20);
        int[][] taken = new int[5][5];
        for (int k = 0; k < span; k++) {
            for (int i = 0; i < 5; i++) {
                int o = x.parted(k, i);
                if (o >= 0) taken[i][o]++;
            }
        }
        for (int i = 0; i < 5; i++) for (int o = 0; o < 5; o++) due("taken off in all, " + i + " " + o, taken[i][o], table[i][o]);
        says("Terms 4", "(There is one; SPAN goes down by one.)");
        due("the last round: parted(19, ..)", anyParted(x, 19), 1);
        due("behind the last: parted(20, 0)", x.parted(20, 0), UNKNOWN);
    }

    private static int anyParted(CallStages x, int k) {
        int found = 0;
        for (int i = 0; i < x.many(3); i++) if (x.parted(k, i) >= 0) found = 1;
        return found;
    }

    private static void partedFullLines() {
        says("Terms 4", "so that each inlet, outlet whose sum is SPAN (of what is left) has one");
        dueRounds("inlet 1 is full and leaves outlet 1 to inlet 2",
            sent(new int[] {1, 0, 2}, new int[] {1, 1, 1}, new int[] {1, 2, 0}),
            new int[] {0, 2, 1}, new int[] {2, 0, 1}, new int[] {2, 1, 0});
        dueRounds("inlet 0 leaves outlet 0 to inlet 1, which is full and has no other",
            sent(new int[] {1, 1}, new int[] {3, 0}), new int[] {0, NONE}, new int[] {1, 0}, new int[] {NONE, 0}, new int[] {NONE, 0});
        dueRounds("outlet 1 is full, so that inlet 0 leaves outlet 0",
            sent(new int[] {1, 2}, new int[] {0, 0}), new int[] {0, NONE}, new int[] {1, NONE}, new int[] {1, NONE});
        dueRounds("outlet 1 alone is full",
            sent(new int[] {1, 1, 0}, new int[] {0, 1, 0}, new int[] {0, 1, 0}),
            new int[] {0, 1, NONE}, new int[] {1, NONE, NONE}, new int[] {NONE, NONE, 1});
        dueRounds("what is full becomes so on the way",
            sent(new int[] {1, 2}, new int[] {3, 0}), new int[] {0, NONE}, new int[] {1, 0}, new int[] {1, 0}, new int[] {NONE, 0});
    }

    private static void partedFirstRow() {
        says("Terms 4", "the first as a row by inlets of outlets (none behind all)");
        dueRounds("an outlet goes ahead of none", sent(new int[] {0, 1}, new int[] {0, 2}),
            new int[] {1, NONE}, new int[] {NONE, 1}, new int[] {NONE, 1});
        dueRounds("also where neither line is full", sent(new int[] {3, 0}, new int[] {0, 1}),
            new int[] {0, 1}, new int[] {0, NONE}, new int[] {0, NONE});
        dueRounds("the least outlet first", sent(new int[] {1, 1}, new int[] {1, 1}), new int[] {0, 1}, new int[] {1, 0});
        dueRounds("the first inlet goes ahead", sent(new int[] {1, 1, 1}, new int[] {1, 1, 1}, new int[] {1, 1, 1}),
            new int[] {0, 1, 2}, new int[] {1, 2, 0}, new int[] {2, 0, 1});
    }

    private static void comes() {
        says("Terms 4", "what COMES (one at most for each inlet: its outlet, or -1) is put behind; then a MATCHING by RULE serves one each");
        for (int rule = 0; rule < 3; rule++) {
            CallStages x = new CallStages();
            due("what comes is served at once", slot(x, rule, 2, 0, 1), 3);
            dueMatched("what comes is served at once", x, 2, 0, 1);
            due("waiting()", x.waiting(), 0);
            due("nothing comes, nothing is there", slot(x, rule, -1, -1, -1), 0);
            dueMatched("nothing comes, nothing is there", x, NONE, NONE, NONE);
            due("one comes", slot(x, rule, -1, 2, -1), 1);
            dueMatched("one comes", x, NONE, 2, NONE);
            due("two for one outlet", slot(x, rule, 1, 1, -1), 1);
            due("the other one waits", x.waiting(), 1);
            due("and is served behind it", slot(x, rule, -1, -1, -1), 1);
            due("waiting()", x.waiting(), 0);
        }
    }

    private static void bySum() {
        says("Terms 4", "0 the one with the greatest sum of QUEUES (those served; of several the first as above)");
        CallStages x = stocked(new int[] {0, 0}, new int[] {3, 0});
        due("3 outweighs 1 and 1", slot(x, BY_SUM, 0, 1), 1);
        dueMatched("3 outweighs 1 and 1", x, NONE, 0);
        x = stocked(new int[] {0, 0}, new int[] {2, 0});
        due("2 is as much as 1 and 1: the first row", slot(x, BY_SUM, 0, 1), 2);
        dueMatched("2 is as much as 1 and 1: the first row", x, 0, 1);
        x = stocked(new int[] {0, 0}, new int[] {1, 0});
        due("an outlet goes ahead of none", slot(x, BY_SUM, 0, -1), 1);
        dueMatched("an outlet goes ahead of none", x, 0, NONE);
        x = stocked(new int[] {0, 0}, new int[] {1, 0});
        due("what comes counts", slot(x, BY_SUM, 0, 0), 1);
        dueMatched("what comes counts", x, NONE, 0);
        x = stocked(new int[] {0, 0, 0}, new int[] {1, 0, 0}, new int[] {1, 1, 0});
        due("0 and 1, or 1 and 0", slot(x, BY_SUM, -1, 1, -1), 2);
        dueMatched("0 and 1, or 1 and 0", x, NONE, 0, 1);
        x = stocked(new int[] {0, 0, 0}, new int[] {1, 0, 0}, new int[] {2, 1, 0});
        due("1 and 2 are more than 1 and 1", slot(x, BY_SUM, -1, 1, -1), 2);
        dueMatched("1 and 2 are more than 1 and 1", x, NONE, 1, 0);
        x = stocked(new int[] {0, 3, 1}, new int[] {0, 0, 3}, new int[] {0, 0, 0});
        due("3 and 3", slot(x, BY_SUM, -1, -1, 2), 2);
        dueMatched("3 and 3", x, 1, 2, NONE);
        duePointers("they stay", x, 2, 0, 0, 0);
        duePointers("they stay", x, 3, 0, 0, 0);
    }

    private static void byTurnsFromPointers() {
        says("Terms 4", "each outlet has a POINTER (0 at first)");
        CallStages x = new CallStages();
        duePointers("at first", x, 2, 0, 0, 0);
        duePointers("at first", x, 3, 0, 0, 0);
        due("all for outlet 2", slot(x, BY_TURNS, 2, 2, 2), 1);
        dueMatched("inlet 0 is the first", x, 2, NONE, NONE);
        says("Terms 4", "each outlet that is not matched takes the first that asks it, from its POINTER on (0 behind the last)");
        due("outlet 2's is 1", x.queue(2, 0, 3), 1);
        due("all for outlet 2", slot(x, BY_TURNS, 2, 2, 2), 1);
        dueMatched("inlet 1 is the first from it on", x, NONE, 2, NONE);
        due("all for outlet 2", slot(x, BY_TURNS, 2, 2, -1), 1);
        dueMatched("inlet 2 is the first from it on", x, NONE, NONE, 2);
        due("outlet 2's is 0 behind the last", x.queue(2, 0, 3), 0);
        due("all for outlet 2", slot(x, BY_TURNS, -1, -1, -1), 1);
        dueMatched("inlet 0 is the first again", x, 2, NONE, NONE);
        due("outlet 2's is 1", x.queue(2, 0, 3), 1);
        x = stocked(new int[] {0, 0}, new int[] {3, 0});
        slot(x, BY_TURNS, -1, -1);
        due("outlet 0's is 0 behind the last", x.queue(0, 0, 3), 0);
        slot(x, BY_TURNS, 0, -1);
        dueMatched("inlet 0", x, 0, NONE);
        due("outlet 0's is 1", x.queue(0, 0, 3), 1);
        slot(x, BY_TURNS, 0, -1);
        slot(x, BY_TURNS, -1, -1);
        slot(x, BY_TURNS, -1, -1);
        due("all is served", x.waiting(), 0);
        slot(x, BY_TURNS, 0, -1);
        dueMatched("none asks from it on, inlet 0 does behind the last", x, 0, NONE);
        says("Terms 4", "each inlet takes the first outlet that took it, from its own POINTER on");
        x = stocked(new int[] {0, 0, 0}, new int[] {0, 0, 0}, new int[] {3, 2, 0});
        int[] outlets = {0, 1, 0, 1, 0};
        int[] pointers = {1, 2, 1, 2, 1};
        for (int time = 0; time < 5; time++) {
            due("inlet 2 has two that took it, time " + time, emptySlot(x, BY_TURNS), 1);
            dueMatched("by its pointer, time " + time, x, NONE, NONE, outlets[time]);
            due("its pointer, time " + time, x.queue(2, 0, 2), pointers[time]);
        }
        due("to the last outlet", slot(x, BY_TURNS, -1, -1, 2), 1);
        due("its pointer is 0 behind the last", x.queue(2, 0, 2), 0);
    }

    private static void byTurnsThreeTimes() {
        says("Terms 4", "when it is so in the first time, both POINTERS go on one beyond the other");
        CallStages x = stocked(new int[] {0, 0, 0}, new int[] {1, 0, 0}, new int[] {0, 1, 0});
        due("outlets 0 and 1 take inlet 1, then outlet 1 inlet 2", slot(x, BY_TURNS, -1, 1, -1), 2);
        dueMatched("in two times", x, NONE, 0, 1);
        duePointers("of inlets", x, 2, 0, 1, 0);
        duePointers("of outlets", x, 3, 2, 0, 0);
        due("1 and 2 ask outlet 0", slot(x, BY_TURNS, -1, 0, 0), 2);
        dueMatched("outlet 0 takes inlet 2, outlet 1 inlet 1", x, NONE, 1, 0);
        duePointers("of inlets", x, 2, 0, 2, 1);
        duePointers("of outlets", x, 3, 0, 2, 0);
        says("Terms 4", "three times: each inlet that is not matched asks all outlets for which it has something");
        x = stocked(new int[] {0, 1, 1, 1, 1}, new int[] {0, 0, 1, 1, 1}, new int[] {0, 0, 0, 1, 1}, new int[] {0, 0, 0, 0, 1}, new int[5]);
        due("one is matched each time", slot(x, BY_TURNS, 0, 1, 2, 3, 4), 3);
        dueMatched("three times, not four", x, 0, 1, 2, NONE, NONE);
        duePointers("of inlets", x, 2, 1, 0, 0, 0, 0);
        duePointers("of outlets", x, 3, 1, 0, 0, 0, 0);
        due("waiting()", x.waiting(), 12);
    }

    private static void crosswise() {
        says("Terms 4", "2 crosswise: for d from 0 to P - 1: all inlets i with the outlet (i + d) of P (the rest), in order");
        CallStages x = stocked(new int[] {0, 0, 0}, new int[] {1, 0, 0}, new int[] {1, 1, 0});
        due("d 0: 1 to 1; d 1: 2 to 0", slot(x, CROSSWISE, -1, 1, -1), 2);
        dueMatched("d 0: 1 to 1; d 1: 2 to 0", x, NONE, 1, 0);
        due("d 2: 1 to 0, 2 to 1", emptySlot(x, CROSSWISE), 2);
        dueMatched("d 2: 1 to 0, 2 to 1", x, NONE, 0, 1);
        x = stocked(new int[] {0, 1, 1}, new int[] {0, 0, 1}, new int[] {0, 0, 0});
        due("d 1: 0 to 1, 1 to 2", emptySlot(x, CROSSWISE), 2);
        dueMatched("d 1: 0 to 1, 1 to 2", x, 1, 2, NONE);
        due("d 2: 0 to 2", emptySlot(x, CROSSWISE), 1);
        dueMatched("d 2: 0 to 2", x, 2, NONE, NONE);
        x = barred(5);
        for (int d = 0; d < 5; d++) {
            due("all by one d", slot(x, CROSSWISE, d, (1 + d) % 5, (2 + d) % 5, (3 + d) % 5, (4 + d) % 5), 5);
            dueMatched("all by d " + d, x, d, (1 + d) % 5, (2 + d) % 5, (3 + d) % 5, (4 + d) % 5);
        }
        says("Terms 4", "if neither is matched and something is there");
        x = barred(2);
        due("0 is matched", slot(x, CROSSWISE, 0, 0), 1);
        dueMatched("0 is matched", x, 0, NONE);
        due("outlet 0 is free for 1", slot(x, CROSSWISE, 1, -1), 2);
        dueMatched("outlet 0 is free for 1", x, 1, 0);
        due("nothing is there", emptySlot(x, CROSSWISE), 0);
        duePointers("they stay", x, 2, 0, 0);
        duePointers("they stay", x, 3, 0, 0);
    }

    private static void bar() {
        says("Promise 26", "TRAFFIC, QUEUES, POINTERS are 0");
        CallStages x = new CallStages();
        for (int cell = 0; cell < 9; cell++) x.traffic(cell / 3, cell % 3, cell + 1);
        slot(x, BY_TURNS, 0, 0, 0);
        slot(x, BY_TURNS, 0, 1, 0);
        due("queues are there", x.waiting() > 0 ? 1 : 0, 1);
        due("pointers are not 0", x.queue(0, 0, 2), 1);
        due("bar(3)", x.bar(3), 3);
        due("span()", x.span(), 0);
        due("changes()", x.changes(), 0);
        due("waiting()", x.waiting(), 0);
        for (int cell = 0; cell < 9; cell++) due("traffic, cell " + cell, x.traffic(cell / 3, cell % 3, 0), 0);
        for (int cell = 0; cell < 9; cell++) due("queue, cell " + cell, x.queue(cell / 3, cell % 3, 0), 0);
        duePointers("of inlets", x, 2, 0, 0, 0);
        duePointers("of outlets", x, 3, 0, 0, 0);
        x.traffic(2, 2, 5);
        x.bar(2);
        x.bar(3);
        due("what was beyond a smaller one is 0, too: traffic(2, 2, 0)", x.traffic(2, 2, 0), 0);
        says("Promise 26", "what P was");
        due("bar(5)", x.bar(5), 3);
        due("bar(5)", x.bar(5), 5);
        due("bar(1)", x.bar(1), 5);
        due("bar(2)", x.bar(2), 1);
        says("Promise 26", "OUTSIDE");
        x.traffic(1, 1, 4);
        for (int wrong : new int[] {0, 6, -1, LEAST, MOST}) due("bar(" + wrong + ")", x.bar(wrong), OUTSIDE);
        due("nothing is changed: many(3)", x.many(3), 2);
        due("nothing is changed: span()", x.span(), 4);
    }

    private static void traffic() {
        CallStages x = new CallStages();
        says("Promise 27", "TRAFFIC from an inlet to an outlet becomes v: what it was");
        due("traffic(0, 2, 7)", x.traffic(0, 2, 7), 0);
        due("traffic(2, 0, 9)", x.traffic(2, 0, 9), 0);
        due("traffic(0, 2, 8)", x.traffic(0, 2, 8), 7);
        due("traffic(0, 2, 8)", x.traffic(0, 2, 8), 8);
        due("the other way: traffic(2, 0, 0)", x.traffic(2, 0, 0), 9);
        says("Promise 27", "UNKNOWN");
        for (int wrong : new int[] {-1, 3, LEAST, MOST}) {
            due("traffic(" + wrong + ", 0, 1)", x.traffic(wrong, 0, 1), UNKNOWN);
            due("traffic(0, " + wrong + ", 1)", x.traffic(0, wrong, 1), UNKNOWN);
            due("ahead of OUTSIDE: traffic(" + wrong + ", 0, 51)", x.traffic(wrong, 0, 51), UNKNOWN);
            due("ahead of OUTSIDE: traffic(0, " + wrong + ", -1)", x.traffic(0, wrong, -1), UNKNOWN);
        }
        says("Promise 27", "OUTSIDE");
        for (int wrong : new int[] {-1, 51, LEAST, MOST}) due("traffic(0, 2, " + wrong + ")", x.traffic(0, 2, wrong), OUTSIDE);
        due("nothing is changed: traffic(0, 2, 50)", x.traffic(0, 2, 50), 8);
        due("nothing is changed: span()", x.span(), 50);
    }

    private static void parted() {
        CallStages x = sent(new int[] {0, 2, 0}, new int[] {1, 0, 0}, new int[] {0, 0, 0});
        says("Promise 29", "In ROUND k of TRAFFIC PARTED: the outlet of an inlet; NONE");
        due("parted(0, 0)", x.parted(0, 0), 1);
        due("parted(0, 1)", x.parted(0, 1), 0);
        due("parted(0, 2)", x.parted(0, 2), NONE);
        due("parted(1, 0)", x.parted(1, 0), 1);
        due("parted(1, 1)", x.parted(1, 1), NONE);
        says("Promise 29", "UNKNOWN: k is not 0 .. SPAN less 1");
        for (int wrong : new int[] {-1, 2, LEAST, MOST}) due("parted(" + wrong + ", 0)", x.parted(wrong, 0), UNKNOWN);
        x.traffic(2, 2, 3);
        due("SPAN is 3: parted(2, 2)", x.parted(2, 2), 2);
        due("SPAN is 3: parted(3, 2)", x.parted(3, 2), UNKNOWN);
        x.traffic(2, 2, 0);
        due("SPAN is 2 again: parted(2, 2)", x.parted(2, 2), UNKNOWN);
        due("SPAN is 0: parted(0, 0)", new CallStages().parted(0, 0), UNKNOWN);
        says("Promise 29", "the inlet");
        for (int wrong : new int[] {-1, 3, 5, LEAST, MOST}) due("parted(0, " + wrong + ")", x.parted(0, wrong), UNKNOWN);
    }

    private static void changes() {
        says("Promise 30", "How many ROUNDS are unlike the one ahead (the first counts)");
        due("no rounds", new CallStages().changes(), 0);
        due("one round", sent(new int[] {1, 0}, new int[] {0, 0}).changes(), 1);
        due("rounds that are alike", sent(new int[] {7, 0}, new int[] {0, 7}).changes(), 1);
        due("one leaves", sent(new int[] {7, 0}, new int[] {0, 6}).changes(), 2);
        due("each is unlike", sent(new int[] {1, 1}, new int[] {1, 1}).changes(), 2);
        due("two by two", sent(new int[] {2, 2}, new int[] {2, 2}).changes(), 2);
        CallStages x = sent(new int[] {50, 50}, new int[] {50, 50});
        due("a hundred rounds", x.changes(), 2);
        int[] full = {50, 50, 50, 50, 50};
        x = sent(full, full, full, full, full);
        due("the longest parting", x.changes(), counted(full, full, full, full, full));
        int[][] restless = {{4, 7, 20, 41, 42}, {24, 28, 41, 1, 4}, {47, 41, 39, 32, 28}, {28, 50, 20, 18, 38}, {28, 22, 25, 2, 45}};
        due("as many as were found", sent(restless).changes(), 25);
        due("as many as were found, one by one", counted(restless), 25);
    }

    /** Changes, counted round by round on objects of their own; each round is held against all that can be tried. */
    private static int counted(int[]... table) {
        SlowStages slow = new SlowStages();
        slow.bar(5);
        for (int i = 0; i < 5; i++) for (int o = 0; o < 5; o++) slow.traffic(i, o, table[i][o]);
        int changes = 0;
        int[] ahead = null;
        CallStages x = null;
        for (int k = 0; k < slow.span(); k++) {
            if (k % 50 == 0) x = sent(table);
            int[] row = new int[5];
            for (int i = 0; i < 5; i++) {
                row[i] = x.parted(k, i);
                due("parted(" + k + ", " + i + ")", row[i], slow.parted(k, i));
            }
            if (ahead == null || !Arrays.equals(ahead, row)) changes++;
            ahead = row;
        }
        return changes;
    }

    private static void slotRefused() {
        CallStages x = new CallStages();
        slot(x, CROSSWISE, 1, 1, 1);
        x.sheet(1, 1, 3);
        says("Promise 31", "UNKNOWN");
        for (int wrong : new int[] {-1, 4, LEAST, MOST}) {
            due("slot(0, " + wrong + ", 1, 0)", x.slot(0, wrong, 1, 0), UNKNOWN);
            due("ahead of OUTSIDE: slot(9, " + wrong + ", 9, 9)", x.slot(9, wrong, 9, 9), UNKNOWN);
        }
        says("Promise 31", "OUTSIDE: lane, rule");
        for (int wrong : new int[] {-1, 3, LEAST, MOST}) {
            due("lane: slot(0, 1, " + wrong + ", 0)", x.slot(0, 1, wrong, 0), OUTSIDE);
            due("lane, ahead of NULL: slot(0, 2, " + wrong + ", 0)", x.slot(0, 2, wrong, 0), OUTSIDE);
            due("rule: slot(" + wrong + ", 1, 1, 0)", x.slot(wrong, 1, 1, 0), OUTSIDE);
            due("rule, ahead of CAST: slot(" + wrong + ", 1, 0, 0)", x.slot(wrong, 1, 0, 0), OUTSIDE);
            due("rule, ahead of NULL: slot(" + wrong + ", 2, 1, 0)", x.slot(wrong, 2, 1, 0), OUTSIDE);
            due("rule, ahead of INDEX: slot(" + wrong + ", 1, 1, 1)", x.slot(wrong, 1, 1, 1), OUTSIDE);
        }
        dueMatched("nothing is changed", x, NONE, 1, NONE);
        due("nothing is changed: waiting()", x.waiting(), 2);
    }

    private static void dueFault(String call, CallStages x, long got, int fault) {
        due(call, got, -10 - fault);
        due(call + ", fault()", x.fault(), fault);
    }

    private static void slotFaults() {
        says("Promise 31", "FAULTS CAST (nothing is no CAST), NULL");
        for (int is = 0; is < 3; is++) {
            CallStages x = new CallStages();
            x.sheet(0, is, 3);
            for (int lane = 0; lane < 3; lane++) {
                if (lane != is) dueFault("a row of " + is + " as " + lane, x, x.slot(0, 0, lane, 0), 2);
                if (lane != is) dueFault("CAST ahead of INDEX", x, x.slot(1, 0, lane, 1), 2);
                dueFault("nothing, as " + lane, x, x.slot(2, 1, lane, 0), 1);
                dueFault("NULL ahead of INDEX", x, x.slot(0, 1, lane, -1), 1);
            }
            due("nothing is changed: waiting()", x.waiting(), 0);
            due("a row of " + is + " as it is", x.slot(0, 0, is, 0), 1);
        }
        says("Promise 31", "INDEX: not all cells are there");
        CallStages x = new CallStages();
        x.sheet(0, 2, 4);
        x.put(0, 0, 9);
        for (int wrong : new int[] {-1, 2, 3, 4, 5, LEAST, MOST, MOST - 2}) {
            dueFault("of four: slot(0, 0, 2, " + wrong + ")", x, x.slot(0, 0, 2, wrong), 3);
        }
        due("nothing is changed: waiting()", x.waiting(), 0);
        due("the last cells are there: slot(0, 0, 2, 1)", x.slot(0, 0, 2, 1), 1);
        x.bar(4);
        dueFault("ahead of a cell: slot(0, 0, 2, 1)", x, x.slot(0, 0, 2, 1), 3);
        x.put(0, 0, 3);
        due("four are there: slot(0, 0, 2, 0)", x.slot(0, 0, 2, 0), 2);
        x.bar(5);
        dueFault("five are not: slot(0, 0, 2, 0)", x, x.slot(0, 0, 2, 0), 3);
        x.sheet(1, 0, 0);
        x.bar(1);
        dueFault("of none: slot(0, 1, 0, 0)", x, x.slot(0, 1, 0, 0), 3);
    }

    private static void slotCells() {
        says("Promise 31", "OUTSIDE: a cell");
        CallStages x = new CallStages();
        slot(x, CROSSWISE, 1, 1, 1);
        x.sheet(1, 2, 4);
        for (int wrong : new int[] {3, -2, 5, LEAST, MOST}) {
            for (int i = 0; i < 3; i++) {
                x.put(1, i, wrong);
                x.put(3, 0, 0);
                due("cell " + i + " is " + wrong, x.slot(i, 1, 2, 0), OUTSIDE);
                due("it is refused: fault()", x.fault(), 0);
                x.put(1, i, 0);
            }
        }
        dueMatched("nothing is changed", x, NONE, 1, NONE);
        due("nothing is changed: waiting()", x.waiting(), 2);
        due("nothing is changed: queue(0, 1, 0)", x.queue(0, 1, 0), 1);
        x.put(1, 3, 7);
        x.put(1, 0, -1);
        x.put(1, 1, 2);
        due("-1, 2, 0 are fine, and what is behind them is not looked at", x.slot(2, 1, 2, 0), 3);
        says("Promise 31", "FULL: a QUEUE would have more than 1000");
        x = barred(5);
        x.sheet(0, 0, 5);
        for (int time = 1; time <= 400; time++) x.slot(0, 0, 0, 0);
        due("the most that a run comes to is far below: waiting()", x.waiting(), 1600);
        int least = MOST;
        int most = 0;
        for (int i = 0; i < 5; i++) {
            least = Math.min(least, x.queue(i, 0, 0));
            most = Math.max(most, x.queue(i, 0, 0));
        }
        due("by sums they stay even", most - least <= 1 ? 1 : 0, 1);
        due("another comes: slot", x.slot(0, 0, 0, 0), 1);
    }

    private static void queue() {
        CallStages x = new CallStages();
        slot(x, BY_TURNS, 2, 2, 0);
        says("Promise 32", "A QUEUE (what 0)");
        int[][] table = {{0, 0, 0}, {0, 0, 1}, {0, 0, 0}};
        for (int i = 0; i < 3; i++) for (int o = 0; o < 3; o++) due("queue(" + i + ", " + o + ", 0)", x.queue(i, o, 0), table[i][o]);
        says("Promise 32", "which outlet the inlet i was matched with in the latest SLOT (1; NONE)");
        dueMatched("the latest slot", x, 2, NONE, 0);
        slot(x, BY_TURNS, -1, -1, -1);
        dueMatched("a later one", x, NONE, 2, NONE);
        slot(x, BY_TURNS, -1, -1, -1);
        dueMatched("one in which nothing is served", x, NONE, NONE, NONE);
        due("ahead of any slot: queue(0, 0, 1)", new CallStages().queue(0, 0, 1), NONE);
        says("Promise 32", "POINTERS of inlet i (2), of outlet i (3)");
        duePointers("of inlets", x, 2, 0, 0, 1);
        duePointers("of outlets", x, 3, 0, 0, 2);
        says("Promise 32", "o is looked at for 0 alone");
        for (int o : new int[] {-1, 3, LEAST, MOST}) {
            due("queue(2, " + o + ", 0)", x.queue(2, o, 0), UNKNOWN);
            due("queue(2, " + o + ", 1)", x.queue(2, o, 1), NONE);
            due("queue(2, " + o + ", 2)", x.queue(2, o, 2), 1);
            due("queue(2, " + o + ", 3)", x.queue(2, o, 3), 2);
        }
    }

    private static void queueRefused() {
        CallStages x = new CallStages();
        says("Promise 32", "OUTSIDE: what; UNKNOWN (OUTSIDE first here)");
        for (int wrong : new int[] {-1, 4, LEAST, MOST}) {
            due("queue(0, 0, " + wrong + ")", x.queue(0, 0, wrong), OUTSIDE);
            due("ahead of UNKNOWN: queue(3, 0, " + wrong + ")", x.queue(3, 0, wrong), OUTSIDE);
            due("ahead of UNKNOWN: queue(0, -1, " + wrong + ")", x.queue(0, -1, wrong), OUTSIDE);
        }
        for (int what = 0; what < 4; what++) {
            for (int wrong : new int[] {-1, 3, LEAST, MOST}) due("queue(" + wrong + ", 0, " + what + ")", x.queue(wrong, 0, what), UNKNOWN);
        }
        x.bar(5);
        for (int what = 0; what < 4; what++) due("of five: queue(4, 4, " + what + ")", x.queue(4, 4, what), what == 1 ? NONE : 0);
        x.bar(1);
        for (int what = 0; what < 4; what++) due("of one: queue(1, 0, " + what + ")", x.queue(1, 0, what), UNKNOWN);
    }

    private static void waiting() {
        says("Promise 33", "All QUEUES together");
        due("none", new CallStages().waiting(), 0);
        due("in one column", stocked(new int[] {0, 0, 0}, new int[] {4, 0, 0}, new int[] {3, 0, 0}).waiting(), 7);
        due("in all", stocked(new int[] {0, 1, 2}, new int[] {0, 0, 4}, new int[] {0, 0, 0}).waiting(), 7);
        CallStages x = stocked(new int[5], new int[] {1, 0, 0, 0, 0}, new int[] {1, 1, 0, 0, 0}, new int[] {1, 1, 1, 0, 0}, new int[] {1, 1, 1, 1, 0});
        due("of five", x.waiting(), 10);
    }
}
