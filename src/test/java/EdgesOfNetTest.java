/** The net of three stages: each sentence of the document that names an edge has a test of its own here. */
public final class EdgesOfNetTest {
    private static final int UNKNOWN = -1, OUTSIDE = -2, STATE = -3, NONE = -9;
    private static final int LEAST = Integer.MIN_VALUE, MOST = Integer.MAX_VALUE;
    private static final long LOST = Long.MIN_VALUE;
    private static final Due DUE = new Due("EdgesOfNetTest");

    public static void main(String[] args) {
        aNewObject();
        objectsAreApart();
        sizesOfTheNet();
        placesOfTheNet();
        linksAndCalls();
        setUpByFirst();
        chains();
        ties();
        allAnew();
        net();
        netOf();
        call();
        mend();
        moves();
        hang();
        anew();
        callOf();
        links();
        lost();
        lostRefused();
        DUE.end();
    }

    private static void says(String where, String words) {
        DUE.says(where, words);
    }

    private static void due(String call, long got, long want) {
        DUE.due(call, got, want);
    }

    private static CallStages netted(int r, int n, int m) {
        CallStages x = new CallStages();
        x.net(r, n, m);
        return x;
    }

    /** Sets up calls, each told by inlet, outlet and the middle switch that is due. */
    private static void called(CallStages x, int... calls) {
        for (int at = 0; at < calls.length; at += 3) {
            due("call(" + calls[at] + ", " + calls[at + 1] + ")", x.call(calls[at], calls[at + 1]), calls[at + 2]);
        }
    }

    private static void dueMiddles(String what, CallStages x, int... byInlets) {
        for (int i = 0; i < byInlets.length; i++) due(what + ": callOf(" + i + ", 1)", x.callOf(i, 1), byInlets[i]);
    }

    private static void aNewObject() {
        CallStages x = new CallStages();
        says("Promise 1", "THE NET, WIRES, P as at first");
        due("netOf(0)", x.netOf(0), 3);
        due("netOf(1)", x.netOf(1), 2);
        due("netOf(2)", x.netOf(2), 2);
        due("many(2)", x.many(2), 4);
        due("many(3)", x.many(3), 3);
        says("Promise 1", "no CALLS");
        due("netOf(3)", x.netOf(3), 0);
        due("many(0)", x.many(0), 0);
        for (int i = 0; i < 6; i++) due("callOf(" + i + ", 0)", x.callOf(i, 0), NONE);
        for (int i = 0; i < 6; i++) due("hang(" + i + ")", x.hang(i), STATE);
        for (int a = 0; a < 2; a++) for (int side = 0; side < 2; side++) due("links", x.links(a, side), 0);
        says("Promise 1", "COMPARERS");
        due("many(1)", x.many(1), 0);
        due("sorter(0)", x.sorter(0), 0);
        due("comparer(0, 0)", x.comparer(0, 0), UNKNOWN);
        due("back()", x.back(), STATE);
        says("Promise 1", "TRAFFIC");
        due("span()", x.span(), 0);
        for (int cell = 0; cell < 9; cell++) due("traffic, cell " + cell, x.traffic(cell / 3, cell % 3, 0), 0);
        says("Promise 1", "QUEUES");
        due("waiting()", x.waiting(), 0);
        for (int cell = 0; cell < 9; cell++) due("queue, cell " + cell, x.queue(cell / 3, cell % 3, 0), 0);
        says("Promise 1", "SHEETS");
        for (int k = 0; k < 4; k++) due("lose(" + k + ")", x.lose(k), 0);
        for (int k = 0; k < 4; k++) due("put(" + k + ", 0, 0)", x.put(k, 0, 0), -11);
    }

    private static void objectsAreApart() {
        says("Promise 1", "A new object");
        CallStages used = new CallStages();
        used.net(5, 4, 7);
        used.call(0, 0);
        used.carry(3, 77);
        used.wires(8);
        used.compare(7, 0);
        used.tell(0);
        used.bar(5);
        used.traffic(0, 0, 50);
        used.sheet(0, 2, 5);
        used.slot(1, 0, 2, 0);
        used.put(1, 0, 0);
        CallStages x = new CallStages();
        int[] many = {0, 0, 4, 3, 1};
        for (int what = 0; what < 5; what++) due("another is used: many(" + what + ")", x.many(what), many[what]);
        due("another is used: netOf(2)", x.netOf(2), 2);
        due("another is used: callOf(0, 0)", x.callOf(0, 0), NONE);
        due("another is used: trace()", x.trace(), 0);
        due("another is used: span()", x.span(), 0);
        due("another is used: waiting()", x.waiting(), 0);
        due("another is used: queue(0, 0, 1)", x.queue(0, 0, 1), NONE);
        due("another is used: queue(0, 0, 2)", x.queue(0, 0, 2), 0);
        due("another is used: fault()", x.fault(), 0);
        due("another is used: lose(0)", x.lose(0), 0);
        due("the other one stays: callOf(0, 0)", used.callOf(0, 0), 0);
        due("the other one stays: fault()", used.fault(), 1);
    }

    private static void sizesOfTheNet() {
        CallStages x = new CallStages();
        says("Terms 1", "R outer switches on each side (1 .. 5; 3 at first)");
        due("at first: netOf(0)", x.netOf(0), 3);
        due("net(0, 2, 2)", x.net(0, 2, 2), OUTSIDE);
        due("net(6, 2, 2)", x.net(6, 2, 2), OUTSIDE);
        due("net(1, 2, 2)", x.net(1, 2, 2), 2);
        due("net(5, 2, 2)", x.net(5, 2, 2), 10);
        says("Terms 1", "N inlets, N outlets each (1 .. 4; 2 at first)");
        due("at first: netOf(1)", new CallStages().netOf(1), 2);
        due("net(3, 0, 2)", x.net(3, 0, 2), OUTSIDE);
        due("net(3, 5, 2)", x.net(3, 5, 2), OUTSIDE);
        due("net(3, 1, 2)", x.net(3, 1, 2), 3);
        due("net(3, 4, 2)", x.net(3, 4, 2), 12);
        says("Terms 1", "M middle ones (1 .. 7; 2 at first)");
        due("at first: netOf(2)", new CallStages().netOf(2), 2);
        due("net(3, 2, 0)", x.net(3, 2, 0), OUTSIDE);
        due("net(3, 2, 8)", x.net(3, 2, 8), OUTSIDE);
        due("net(3, 2, 1)", x.net(3, 2, 1), 6);
        due("links(1, 0)", x.links(1, 0), UNKNOWN);
        due("net(3, 2, 7)", x.net(3, 2, 7), 6);
        due("links(6, 0)", x.links(6, 0), 0);
        due("links(7, 0)", x.links(7, 0), UNKNOWN);
    }

    private static void placesOfTheNet() {
        says("Terms 1", "Inlets, outlets 0 .. N R less 1");
        int[][] nets = {{1, 1}, {3, 2}, {2, 3}, {5, 4}};
        for (int[] net : nets) {
            CallStages x = netted(net[0], net[1], 7);
            int last = net[0] * net[1] - 1;
            due("the inlet behind the last", x.call(last + 1, 0), UNKNOWN);
            due("the outlet behind the last", x.call(0, last + 1), UNKNOWN);
            due("the inlet ahead of 0", x.call(-1, 0), UNKNOWN);
            due("the outlet ahead of 0", x.call(0, -1), UNKNOWN);
            due("the last ones", x.call(last, last), 0);
            if (last > 0) due("the first ones", x.call(0, 0), 0);
        }
        says("Terms 1", "that of i is at switch i by N (cut)");
        for (int n = 1; n <= 4; n++) {
            CallStages x = netted(5, n, 2);
            for (int i = 0; i < 5 * n; i++) {
                int other = 5 * n - 1 - i;
                due("call(" + i + ", " + other + ")", x.call(i, other), 0);
                due("N " + n + ", " + i + ": links(0, 0)", x.links(0, 0), 1 << i / n);
                due("N " + n + ", " + other + ": links(0, 1)", x.links(0, 1), 1 << other / n);
                x.hang(i);
            }
        }
    }

    private static void linksAndCalls() {
        says("Terms 1", "each outer switch has one LINK with each middle one");
        CallStages x = netted(2, 4, 3);
        called(x, 0, 0, 0, 1, 1, 1, 2, 2, 2);
        due("none is left at the inlet's switch: call(3, 4)", x.call(3, 4), NONE);
        due("none is left at the outlet's switch: call(4, 3)", x.call(4, 3), NONE);
        due("the other switches have theirs: call(4, 4)", x.call(4, 4), 0);
        says("Terms 1", "CALLS, 20 at most");
        x = netted(5, 4, 7);
        for (int i = 0; i < 20; i++) due("call(" + i + ") is set up", x.call(i, 19 - i) >= 0 ? 1 : 0, 1);
        due("netOf(3)", x.netOf(3), 20);
        due("many(0)", x.many(0), 20);
        for (int i = 0; i < 20; i++) due("callOf(" + i + ", 0)", x.callOf(i, 0), 19 - i);
        says("Terms 1", "an inlet, an outlet (none is of two CALLS)");
        x = netted(5, 4, 7);
        called(x, 7, 9, 0);
        due("the inlet is taken: call(7, 10)", x.call(7, 10), STATE);
        due("the outlet is taken: call(8, 9)", x.call(8, 9), STATE);
        due("an inlet is no outlet: call(9, 7)", x.call(9, 7), 0);
        says("Terms 1", "no LINK has two");
        x = netted(2, 4, 4);
        for (int i = 0; i < 4; i++) x.mend(i, 2 * i);
        for (int i = 4; i < 8; i++) x.mend(i, 2 * i - 7);
        int seen = 0;
        for (int i = 0; i < 4; i++) seen |= 1 << x.callOf(i, 1);
        due("the four of switch 0 go by four", seen, 15);
        seen = 0;
        for (int i = 4; i < 8; i++) seen |= 1 << x.callOf(i, 1);
        due("the four of switch 1 go by four", seen, 15);
        for (int a = 0; a < 4; a++) due("links(" + a + ", 1)", x.links(a, 1), 3);
        says("Terms 1", "They are told by their inlet");
        x = netted(3, 2, 2);
        called(x, 1, 4, 0);
        due("callOf(1, 0)", x.callOf(1, 0), 4);
        due("callOf(4, 0)", x.callOf(4, 0), NONE);
        due("hang(4)", x.hang(4), STATE);
    }

    private static void setUpByFirst() {
        says("Terms 1", "a CALL is set up by the least middle switch both of whose LINKS are free");
        CallStages x = netted(3, 3, 4);
        called(x, 0, 0, 0, 1, 3, 1, 3, 4, 0, 6, 1, 1, 2, 2, 2);
        due("the least is free again: hang(0)", x.hang(0), 0);
        due("the least is free again: call(0, 6)", x.call(0, 6), 0);
        says("Terms 1", "there is none: it is BLOCKED");
        x = netted(3, 2, 2);
        called(x, 2, 4, 0, 3, 0, 1, 0, 2, 0);
        due("each side has one free, not the same: call(1, 1)", x.call(1, 1), NONE);
        due("nothing is set up: callOf(1, 0)", x.callOf(1, 0), NONE);
        due("nothing is set up: netOf(3)", x.netOf(3), 3);
        due("its outlet is free: call(5, 1)", x.call(5, 1), 0);
    }

    /**
     * From inlet switch 0 (0 is free) to outlet switch 0 (1 is free, once a call is there) by a chain of so many calls,
     * each of which stands in the way of the one ahead.
     */
    private static CallStages chain(int length) {
        CallStages x = netted(5, 2, 2);
        called(x, 0, 8, 0, 1, 9, 1);
        x.hang(0);
        int[][] links = {{2, 0, 0}, {3, 2, 1}, {4, 3, 0}, {5, 4, 1}, {6, 5, 0}, {7, 6, 1}, {8, 7, 0}};
        for (int at = 0; at < length; at++) called(x, links[at]);
        return x;
    }

    private static void chains() {
        says("Terms 1", "and so on, till none is in the way");
        for (int length = 1; length <= 7; length++) {
            CallStages x = chain(length);
            due("blocked by a chain of " + length, x.call(0, 1), NONE);
            x.mend(0, 1);
            dueMiddles("a chain of " + length, x, 0, 1);
            for (int at = 0; at < length; at++) {
                due("a chain of " + length + ", call " + at, x.callOf(at + 2, 1), at % 2 == 0 ? 1 : 0);
            }
        }
        says("Terms 1", "MOVED: how many of those that were there");
        for (int length = 0; length <= 7; length++) {
            due("a chain of " + length + ": moves(0, 1)", chain(length).moves(0, 1), length);
            due("a chain of " + length + ": mend(0, 1)", chain(length).mend(0, 1), length);
        }
        says("Terms 1", "(a, b may be one: nothing is moved)");
        CallStages x = netted(3, 2, 3);
        called(x, 0, 2, 0, 2, 0, 0);
        due("mend(1, 1)", x.mend(1, 1), 0);
        dueMiddles("by the one that is free at both", x, 0, 1, 0);
    }

    /** Inlet switch 0 has 0 and 1 free, outlet switch 0 has 2 and 3; 4 comes there by 0, 8 by 1. */
    private static CallStages tied() {
        CallStages x = netted(3, 4, 4);
        called(x, 0, 4, 0, 1, 5, 1, 2, 6, 2, 3, 7, 3);
        x.hang(0);
        x.hang(1);
        called(x, 4, 0, 0, 8, 1, 1);
        return x;
    }

    private static void ties() {
        says("Terms 1", "of several the least a, then the least b");
        CallStages x = tied();
        due("each chain moves one: mend(0, 2)", x.mend(0, 2), 1);
        due("the least a: callOf(0, 1)", x.callOf(0, 1), 0);
        due("the least b: callOf(4, 1)", x.callOf(4, 1), 2);
        due("the other one stays: callOf(8, 1)", x.callOf(8, 1), 1);
        x = tied();
        called(x, 5, 8, 1, 6, 9, 2);
        due("0 with 2 moves two, 0 with 3 and 1 with 2 one: mend(0, 2)", x.mend(0, 2), 1);
        due("the least a goes ahead: callOf(0, 1)", x.callOf(0, 1), 0);
        due("callOf(4, 1)", x.callOf(4, 1), 3);
        due("callOf(8, 1)", x.callOf(8, 1), 1);
        says("Terms 1", "by the CHAIN that moves the fewest");
        x = tied();
        called(x, 5, 8, 1, 6, 9, 2, 7, 10, 3);
        due("0 moves two, 1 one: mend(0, 2)", x.mend(0, 2), 1);
        due("callOf(0, 1)", x.callOf(0, 1), 1);
        due("callOf(4, 1)", x.callOf(4, 1), 0);
        due("callOf(8, 1)", x.callOf(8, 1), 2);
        says("Terms 1", "where s has a's LINK free, t has b's");
        x = tied();
        due("call(9, 2), by 2", x.call(9, 2), 2);
        due("call(10, 3), by 3", x.call(10, 3), 3);
        x.hang(4);
        due("outlet switch 0 has 0 alone, inlet switch 0 too: mend(0, 0)", x.mend(0, 0), 0);
        due("callOf(0, 1)", x.callOf(0, 1), 0);
    }

    private static void allAnew() {
        says("Terms 1", "all CALLS are taken off, and set up by their inlets, each MENDED");
        CallStages x = netted(3, 2, 2);
        called(x, 2, 2, 0, 0, 3, 1);
        due("inlet 0 comes first: anew()", x.anew(), 2);
        due("callOf(0, 1)", x.callOf(0, 1), 0);
        due("callOf(2, 1)", x.callOf(2, 1), 1);
        x = netted(3, 2, 2);
        called(x, 4, 5, 0, 5, 1, 1, 2, 4, 1, 0, 0, 0);
        due("by inlets the last one would be blocked: anew()", x.anew(), 4);
        dueMiddles("it moves inlet 0's", x, 1, NONE, 0, NONE, 1, 0);
    }

    private static void net() {
        CallStages x = netted(2, 3, 4);
        says("Promise 2", "THE NET becomes so");
        int[] all = {2, 3, 4};
        for (int what = 0; what < 3; what++) due("netOf(" + what + ")", x.netOf(what), all[what]);
        says("Promise 2", "without CALLS");
        called(x, 5, 1, 0);
        x.net(2, 3, 4);
        due("netOf(3)", x.netOf(3), 0);
        due("callOf(5, 0)", x.callOf(5, 0), NONE);
        due("its outlet and links are free: call(4, 1)", x.call(4, 1), 0);
        due("its inlet is free: call(5, 2)", x.call(5, 2), 1);
        says("Promise 2", "how many inlets");
        due("net(4, 3, 1)", x.net(4, 3, 1), 12);
        due("net(1, 1, 1)", x.net(1, 1, 1), 1);
        due("net(5, 4, 7)", x.net(5, 4, 7), 20);
        says("Promise 2", "OUTSIDE");
        for (int wrong : new int[] {0, -1, LEAST, MOST, 8}) {
            due("net(" + wrong + ", 1, 1)", x.net(wrong, 1, 1), OUTSIDE);
            due("net(1, " + wrong + ", 1)", x.net(1, wrong, 1), OUTSIDE);
            due("net(1, 1, " + wrong + ")", x.net(1, 1, wrong), OUTSIDE);
        }
        due("nothing is changed: netOf(0)", x.netOf(0), 5);
        due("nothing is changed: netOf(1)", x.netOf(1), 4);
        due("nothing is changed: netOf(2)", x.netOf(2), 7);
    }

    private static void netOf() {
        says("Promise 3", "1: M is 2 N - 1 or more");
        int[][] edges = {{2, 1, 1, 1}, {2, 2, 2, 0}, {2, 2, 3, 1}, {5, 3, 4, 0}, {5, 3, 5, 1}, {5, 4, 6, 0}, {5, 4, 7, 1}};
        for (int[] e : edges) due("netOf(4) of " + e[0] + " " + e[1] + " " + e[2], netted(e[0], e[1], e[2]).netOf(4), e[3]);
        says("Promise 3", "or R is 1 and M is N or more");
        int[][] single = {{1, 2, 2, 1}, {1, 2, 1, 0}, {1, 3, 3, 1}, {1, 3, 2, 0}, {1, 4, 4, 1}, {1, 4, 3, 0}, {2, 4, 4, 0}, {2, 3, 3, 0}};
        for (int[] e : single) due("netOf(4) of " + e[0] + " " + e[1] + " " + e[2], netted(e[0], e[1], e[2]).netOf(4), e[3]);
        says("Promise 3", "5 whether all can be set up, MENDED (1: M is N or more; 0)");
        for (int n = 1; n <= 4; n++) {
            due("M is N: netOf(5)", netted(5, n, n).netOf(5), 1);
            if (n > 1) due("M is N less 1: netOf(5)", netted(5, n, n - 1).netOf(5), 0);
            if (n > 1) due("R 1, M is N less 1: netOf(5)", netted(1, n, n - 1).netOf(5), 0);
            due("M is 7: netOf(5)", netted(1, n, 7).netOf(5), 1);
        }
        says("Promise 3", "4 whether none can be BLOCKED, however those there go");
        for (int r = 1; r <= 5; r++) for (int n = 1; n <= 4; n++) for (int m = n; m <= 7; m++) dueNeverBlocked(r, n, m);
        due("N 2, M 2, R 2: netOf(4)", netted(2, 2, 2).netOf(4), 0);
        due("N 2, M 2, R 2: one is blocked", blockedOfTwo(), NONE);
        says("Promise 3", "OUTSIDE");
        CallStages x = new CallStages();
        for (int wrong : new int[] {-1, 6, LEAST, MOST}) due("netOf(" + wrong + ")", x.netOf(wrong), OUTSIDE);
        due("the last one: netOf(5)", x.netOf(5), 1);
    }

    /** Calls come and go without a plan: where the net tells so, none is blocked. */
    private static void dueNeverBlocked(int r, int n, int m) {
        CallStages x = netted(r, n, m);
        if (x.netOf(4) == 0) return;
        int drawn = 17 * r + 5 * n + m;
        int blocked = 0;
        for (int time = 0; time < 240; time++) {
            drawn = drawn * 1103515245 + 12345;
            int inlet = (drawn >>> 8) % (r * n);
            int outlet = (drawn >>> 20) % (r * n);
            if (x.call(inlet, outlet) == NONE) blocked++;
            if ((drawn >>> 5) % 3 == 0) x.hang((drawn >>> 13) % (r * n));
        }
        due("blocked in a net of " + r + " " + n + " " + m, blocked, 0);
    }

    /** Inlet switch 0 has 1 free alone, outlet switch 0 has 0. */
    private static int blockedOfTwo() {
        CallStages x = netted(2, 2, 2);
        called(x, 0, 2, 0, 2, 3, 1, 3, 0, 0);
        x.hang(3);
        x.hang(2);
        called(x, 2, 0, 0, 3, 1, 1);
        x.hang(2);
        return x.call(1, 0);
    }

    private static void call() {
        says("Promise 4", "NONE: it is BLOCKED");
        CallStages x = netted(2, 2, 1);
        called(x, 0, 0, 0);
        due("no link of the inlet's switch: call(1, 2)", x.call(1, 2), NONE);
        due("no link of the outlet's switch: call(2, 1)", x.call(2, 1), NONE);
        due("nothing is done: netOf(3)", x.netOf(3), 1);
        due("nothing is done: links(0, 0)", x.links(0, 0), 1);
        due("nothing is done: links(0, 1)", x.links(0, 1), 1);
        says("Promise 4", "UNKNOWN");
        for (int wrong : new int[] {-1, 4, LEAST, MOST}) {
            due("call(" + wrong + ", 3)", x.call(wrong, 3), UNKNOWN);
            due("call(3, " + wrong + ")", x.call(3, wrong), UNKNOWN);
            due("ahead of STATE: call(" + wrong + ", 0)", x.call(wrong, 0), UNKNOWN);
            due("ahead of STATE: call(0, " + wrong + ")", x.call(0, wrong), UNKNOWN);
        }
        says("Promise 4", "STATE: its inlet, its outlet has one");
        due("the inlet: call(0, 3)", x.call(0, 3), STATE);
        due("the outlet: call(3, 0)", x.call(3, 0), STATE);
        due("both: call(0, 0)", x.call(0, 0), STATE);
        due("ahead of NONE: call(1, 0)", x.call(1, 0), STATE);
        due("neither: call(3, 3)", x.call(3, 3), 0);
    }

    private static void mend() {
        says("Promise 5", "NONE: no LINK of its inlet's, or of its outlet's switch is free");
        CallStages x = netted(3, 3, 2);
        called(x, 0, 0, 0, 1, 3, 1, 3, 6, 0, 6, 7, 1);
        due("of the inlet's: mend(2, 1)", x.mend(2, 1), NONE);
        due("of the outlet's: mend(7, 8)", x.mend(7, 8), NONE);
        due("of both: mend(2, 8)", x.mend(2, 8), NONE);
        due("nothing is done: netOf(3)", x.netOf(3), 4);
        dueMiddles("nothing is done", x, 0, 1, NONE, 0, NONE, NONE, 1);
        says("Promise 5", "UNKNOWN");
        for (int wrong : new int[] {-1, 9, LEAST, MOST}) {
            due("mend(" + wrong + ", 8)", x.mend(wrong, 8), UNKNOWN);
            due("mend(8, " + wrong + ")", x.mend(8, wrong), UNKNOWN);
            due("ahead of STATE: mend(" + wrong + ", 0)", x.mend(wrong, 0), UNKNOWN);
            due("ahead of STATE: mend(0, " + wrong + ")", x.mend(0, wrong), UNKNOWN);
        }
        says("Promise 5", "STATE: as call()");
        due("the inlet: mend(0, 8)", x.mend(0, 8), STATE);
        due("the outlet: mend(8, 0)", x.mend(8, 0), STATE);
        due("ahead of NONE: mend(2, 6)", x.mend(2, 6), STATE);
    }

    private static void moves() {
        says("Promise 6", "MOVED, if a CALL were MENDED (nothing is done)");
        CallStages x = chain(7);
        due("moves(0, 1)", x.moves(0, 1), 7);
        dueMiddles("nothing is done", x, NONE, 1, 0, 1, 0, 1, 0, 1, 0);
        due("nothing is done: netOf(3)", x.netOf(3), 8);
        due("nothing is done: links(0, 0)", x.links(0, 0), 30);
        due("the same again: moves(0, 1)", x.moves(0, 1), 7);
        due("mend(0, 1)", x.mend(0, 1), 7);
        says("Promise 6", "NONE");
        x = netted(2, 2, 1);
        called(x, 0, 0, 0);
        due("no link of the inlet's switch: moves(1, 2)", x.moves(1, 2), NONE);
        due("no link of the outlet's switch: moves(2, 1)", x.moves(2, 1), NONE);
        due("no link of both: moves(1, 1)", x.moves(1, 1), NONE);
        says("Promise 6", "UNKNOWN");
        for (int wrong : new int[] {-1, 4, LEAST, MOST}) {
            due("ahead of STATE: moves(" + wrong + ", 0)", x.moves(wrong, 0), UNKNOWN);
            due("ahead of STATE: moves(0, " + wrong + ")", x.moves(0, wrong), UNKNOWN);
        }
        says("Promise 6", "STATE: as call()");
        due("the inlet: moves(0, 3)", x.moves(0, 3), STATE);
        due("the outlet: moves(3, 0)", x.moves(3, 0), STATE);
        due("ahead of NONE: moves(1, 0)", x.moves(1, 0), STATE);
    }

    private static void hang() {
        CallStages x = netted(3, 2, 2);
        called(x, 0, 5, 0, 1, 4, 1);
        says("Promise 7", "A CALL is taken off: its middle switch");
        due("hang(1)", x.hang(1), 1);
        due("hang(0)", x.hang(0), 0);
        due("netOf(3)", x.netOf(3), 0);
        due("callOf(0, 0)", x.callOf(0, 0), NONE);
        due("callOf(0, 1)", x.callOf(0, 1), NONE);
        for (int a = 0; a < 2; a++) for (int side = 0; side < 2; side++) due("links", x.links(a, side), 0);
        due("inlet and outlet are free: call(0, 5)", x.call(0, 5), 0);
        due("moved by a chain, it tells where it goes by now", chainedThenHung(), 1);
        says("Promise 7", "UNKNOWN");
        for (int wrong : new int[] {-1, 6, LEAST, MOST}) due("hang(" + wrong + ")", x.hang(wrong), UNKNOWN);
        says("Promise 7", "STATE: the inlet has none");
        due("hang(1)", x.hang(1), STATE);
        due("an outlet is no inlet: hang(5)", x.hang(5), STATE);
        due("nothing is changed: netOf(3)", x.netOf(3), 1);
    }

    private static int chainedThenHung() {
        CallStages x = chain(1);
        x.mend(0, 1);
        return x.hang(2);
    }

    private static void anew() {
        says("Promise 8", "ALL ANEW: how many CALLS go by another middle switch");
        CallStages x = new CallStages();
        due("there are none: anew()", x.anew(), 0);
        x = netted(5, 4, 7);
        called(x, 0, 0, 0, 1, 4, 1, 2, 8, 2, 19, 19, 0);
        x.hang(1);
        due("one of three: anew()", x.anew(), 1);
        due("callOf(2, 1)", x.callOf(2, 1), 1);
        due("callOf(2, 0)", x.callOf(2, 0), 8);
        due("the same again: anew()", x.anew(), 0);
        due("all are there: netOf(3)", x.netOf(3), 3);
        due("links(1, 0)", x.links(1, 0), 1);
        due("links(2, 0)", x.links(2, 0), 0);
        says("Promise 8", "STATE: some could not (nothing is done)");
        x = netted(2, 4, 2);
        called(x, 0, 0, 0, 1, 4, 1, 4, 1, 1, 5, 5, 0);
        due("M is below N, and each switch is full, yet all could: anew()", x.anew(), 0);
        due("netOf(3)", x.netOf(3), 4);
    }

    private static void callOf() {
        CallStages x = netted(3, 2, 2);
        called(x, 0, 5, 0, 1, 4, 1);
        says("Promise 9", "Of the CALL of an inlet: 0 outlet, 1 middle switch");
        due("callOf(0, 0)", x.callOf(0, 0), 5);
        due("callOf(0, 1)", x.callOf(0, 1), 0);
        due("callOf(1, 0)", x.callOf(1, 0), 4);
        due("callOf(1, 1)", x.callOf(1, 1), 1);
        says("Promise 9", "NONE: it has none");
        due("callOf(5, 0)", x.callOf(5, 0), NONE);
        due("callOf(5, 1)", x.callOf(5, 1), NONE);
        says("Promise 9", "UNKNOWN");
        for (int wrong : new int[] {-1, 6, LEAST, MOST}) {
            due("callOf(" + wrong + ", 0)", x.callOf(wrong, 0), UNKNOWN);
            due("ahead of OUTSIDE: callOf(" + wrong + ", 2)", x.callOf(wrong, 2), UNKNOWN);
        }
        says("Promise 9", "OUTSIDE");
        for (int wrong : new int[] {-1, 2, LEAST, MOST}) {
            due("callOf(0, " + wrong + ")", x.callOf(0, wrong), OUTSIDE);
            due("ahead of NONE: callOf(5, " + wrong + ")", x.callOf(5, wrong), OUTSIDE);
        }
    }

    private static void links() {
        CallStages x = netted(5, 1, 7);
        says("Promise 10", "LINKS of a middle switch that are taken, by outer switches, as bits: side 0, 1");
        int[] inBits = {1, 3, 7, 15, 31};
        int[] outBits = {16, 24, 28, 30, 31};
        for (int i = 0; i < 5; i++) {
            called(x, i, 4 - i, 0);
            due("links(0, 0)", x.links(0, 0), inBits[i]);
            due("links(0, 1)", x.links(0, 1), outBits[i]);
        }
        due("none: links(6, 0)", x.links(6, 0), 0);
        says("Promise 10", "UNKNOWN");
        for (int wrong : new int[] {-1, 7, LEAST, MOST}) {
            due("links(" + wrong + ", 0)", x.links(wrong, 0), UNKNOWN);
            due("ahead of OUTSIDE: links(" + wrong + ", 2)", x.links(wrong, 2), UNKNOWN);
        }
        x.net(3, 2, 1);
        due("M 1: links(1, 0)", x.links(1, 0), UNKNOWN);
        due("M 1: links(0, 0)", x.links(0, 0), 0);
        says("Promise 10", "OUTSIDE");
        for (int wrong : new int[] {-1, 2, LEAST, MOST}) due("links(0, " + wrong + ")", x.links(0, wrong), OUTSIDE);
    }

    private static void dueShare(CallStages x, int p, int q, long upper, long lower) {
        due("lost(" + p + ", " + q + ", 0)", x.lost(p, q, 0), upper);
        due("lost(" + p + ", " + q + ", 1)", x.lost(p, q, 1), lower);
    }

    private static void lost() {
        says("Terms 4", "a CALL is lost, if of each middle switch one LINK at least is");
        dueShare(netted(5, 4, 1), 1, 2, 3, 4);
        dueShare(netted(1, 1, 2), 1, 2, 9, 16);
        dueShare(netted(3, 2, 3), 1, 4, 343, 4096);
        CallStages x = netted(3, 2, 7);
        dueShare(x, 1, 20, 137231006679L, 1638400000000000000L);
        dueShare(x, 19, 20, 1609942146236642799L, 1638400000000000000L);
        says("Terms", "Shares are told as upper and lower number (above 0) in least terms");
        x = netted(3, 2, 1);
        dueShare(x, 2, 4, 3, 4);
        dueShare(x, 10, 20, 3, 4);
        dueShare(x, 15, 20, 15, 16);
        dueShare(x, 2, 3, 8, 9);
        dueShare(x, 0, 20, 0, 1);
        dueShare(x, 20, 20, 1, 1);
        says("Terms 4", "each LINK is busy with the share p by q (1 <= q <= 20, 0 <= p <= q)");
        x = netted(3, 2, 2);
        dueShare(x, 0, 1, 0, 1);
        dueShare(x, 1, 1, 1, 1);
        dueShare(x, 1, 20, 1521, 160000);
        x.call(0, 0);
        dueShare(x, 1, 3, 25, 81);
    }

    private static void lostRefused() {
        CallStages x = new CallStages();
        says("Promise 34", "LOST: OUTSIDE");
        for (int which = 0; which < 2; which++) {
            due("q 0", x.lost(0, 0, which), LOST);
            due("q 21", x.lost(1, 21, which), LOST);
            due("q -1", x.lost(-1, -1, which), LOST);
            due("q LEAST", x.lost(0, LEAST, which), LOST);
            due("q MOST", x.lost(0, MOST, which), LOST);
            due("p -1", x.lost(-1, 5, which), LOST);
            due("p q and 1", x.lost(6, 5, which), LOST);
            due("p LEAST", x.lost(LEAST, 5, which), LOST);
            due("p MOST", x.lost(MOST, 5, which), LOST);
        }
        for (int which : new int[] {-1, 2, LEAST, MOST}) due("which " + which, x.lost(1, 5, which), LOST);
        x.put(0, 0, 0);
        x.lost(0, 0, 0);
        due("it names no FAULTS: fault()", x.fault(), 1);
    }
}
