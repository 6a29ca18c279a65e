/** Promises 1 to 10 and 34: the net of three stages. */
public final class StagesTest {
    private static final int UNKNOWN = -1, OUTSIDE = -2, STATE = -3, NONE = -9;
    private static final int LEAST = Integer.MIN_VALUE, MOST = Integer.MAX_VALUE;
    private static final Due DUE = new Due("StagesTest");

    public static void main(String[] args) {
        aNewObject();
        net();
        netOf();
        callByTheFirst();
        callBlocked();
        mendAlongAChain();
        mendTakesTheFewest();
        mendAndMovesRefused();
        hang();
        anew();
        callOfAndLinks();
        lost();
        DUE.end();
    }

    private static void due(String call, long got, long want) {
        DUE.due(call, got, want);
    }

    private static void aNewObject() {
        CallStages x = new CallStages();
        int[] net = {3, 2, 2, 0, 0, 1};
        for (int what = 0; what < 6; what++) due("new: netOf(" + what + ")", x.netOf(what), net[what]);
        int[] many = {0, 0, 4, 3, 1};
        for (int what = 0; what < 5; what++) due("new: many(" + what + ")", x.many(what), many[what]);
        for (int inlet = 0; inlet < 6; inlet++) due("new: callOf(" + inlet + ", 0)", x.callOf(inlet, 0), NONE);
        for (int middle = 0; middle < 2; middle++) due("new: links(" + middle + ", 0)", x.links(middle, 0), 0);
        due("new: outlet(0)", x.outlet(0), 0);
        due("new: outlet(1)", x.outlet(1), 1);
        due("new: sorter(0)", x.sorter(0), 0);
        due("new: span()", x.span(), 0);
        due("new: changes()", x.changes(), 0);
        due("new: waiting()", x.waiting(), 0);
        for (int i = 0; i < 3; i++) {
            due("new: traffic(" + i + ", 2, 0)", x.traffic(i, 2, 0), 0);
            due("new: queue(" + i + ", 2, 0)", x.queue(i, 2, 0), 0);
            due("new: queue(" + i + ", 0, 1)", x.queue(i, 0, 1), NONE);
            due("new: queue(" + i + ", 0, 2)", x.queue(i, 0, 2), 0);
            due("new: queue(" + i + ", 0, 3)", x.queue(i, 0, 3), 0);
        }
        for (int k = 0; k < 4; k++) due("new: lose(" + k + ")", x.lose(k), 0);
        due("new: trace()", x.trace(), 0);
        due("new: fault()", x.fault(), 0);
    }

    private static void net() {
        CallStages x = new CallStages();
        x.call(0, 5);
        int[][] wrong = {{0, 2, 2}, {6, 2, 2}, {3, 0, 2}, {3, 5, 2}, {3, 2, 0}, {3, 2, 8}, {LEAST, 2, 2}, {3, MOST, 2}, {3, 2, -1}};
        for (int[] w : wrong) due("net(" + w[0] + ", " + w[1] + ", " + w[2] + ")", x.net(w[0], w[1], w[2]), OUTSIDE);
        due("refused: netOf(3)", x.netOf(3), 1);
        due("refused: callOf(0, 0)", x.callOf(0, 0), 5);
        due("net(3, 2, 2)", x.net(3, 2, 2), 6);
        due("without calls: netOf(3)", x.netOf(3), 0);
        due("without calls: callOf(0, 0)", x.callOf(0, 0), NONE);
        due("without calls: links(0, 0)", x.links(0, 0), 0);
        due("without calls: links(0, 1)", x.links(0, 1), 0);
        due("without calls: call(1, 5)", x.call(1, 5), 0);
        for (int r = 1; r <= 5; r++) {
            for (int n = 1; n <= 4; n++) due("net(" + r + ", " + n + ", 7)", x.net(r, n, 7), r * n);
        }
        due("net(1, 1, 1)", x.net(1, 1, 1), 1);
        due("call(1, 0)", x.call(1, 0), UNKNOWN);
        due("net(5, 4, 7)", x.net(5, 4, 7), 20);
        due("call(19, 19)", x.call(19, 19), 0);
    }

    private static void netOf() {
        for (int r = 1; r <= 5; r++) {
            CallStages x = new CallStages();
            for (int n = 1; n <= 4; n++) {
                for (int m = 1; m <= 7; m++) {
                    x.net(r, n, m);
                    String net = "net " + r + " " + n + " " + m + ": ";
                    due(net + "netOf(0)", x.netOf(0), r);
                    due(net + "netOf(1)", x.netOf(1), n);
                    due(net + "netOf(2)", x.netOf(2), m);
                    due(net + "netOf(4)", x.netOf(4), m >= 2 * n - 1 || r == 1 && m >= n ? 1 : 0);
                    due(net + "netOf(5)", x.netOf(5), m >= n ? 1 : 0);
                }
            }
        }
        CallStages x = new CallStages();
        x.call(0, 0);
        x.mend(1, 1);
        due("netOf(3)", x.netOf(3), 2);
        for (int what : new int[] {-1, 6, LEAST, MOST}) due("netOf(" + what + ")", x.netOf(what), OUTSIDE);
    }

    private static void callByTheFirst() {
        CallStages x = new CallStages();
        x.net(3, 3, 4);
        due("call(0, 0)", x.call(0, 0), 0);
        due("call(1, 3), its switch has 0", x.call(1, 3), 1);
        due("call(3, 1), its outlet's switch has 0", x.call(3, 1), 1);
        due("call(4, 4), 0 is free at both", x.call(4, 4), 0);
        due("call(2, 2), 0 and 1 are taken at both", x.call(2, 2), 2);
        due("call(0, 8)", x.call(0, 8), STATE);
        due("call(8, 0)", x.call(8, 0), STATE);
        due("call(9, 0), UNKNOWN goes ahead of STATE", x.call(9, 0), UNKNOWN);
        due("call(0, 9)", x.call(0, 9), UNKNOWN);
        due("call(-1, 8)", x.call(-1, 8), UNKNOWN);
        due("call(8, -1)", x.call(8, -1), UNKNOWN);
        due("call(MOST, LEAST)", x.call(MOST, LEAST), UNKNOWN);
        due("netOf(3)", x.netOf(3), 5);
        due("callOf(2, 0)", x.callOf(2, 0), 2);
    }

    /** 2 to 4 by 0, 3 to 0 by 1, 0 to 2 by 0: 1 to 1 finds middle switch 1 alone at its side, 0 alone at the other. */
    private static CallStages blocked() {
        CallStages x = new CallStages();
        due("call(2, 4)", x.call(2, 4), 0);
        due("call(3, 0)", x.call(3, 0), 1);
        due("call(0, 2)", x.call(0, 2), 0);
        return x;
    }

    private static void callBlocked() {
        CallStages x = blocked();
        due("blocked: call(1, 1)", x.call(1, 1), NONE);
        due("blocked: netOf(3)", x.netOf(3), 3);
        due("blocked: callOf(1, 0)", x.callOf(1, 0), NONE);
        due("hang(0) makes room", x.hang(0), 0);
        due("call(1, 1)", x.call(1, 1), 0);
    }

    private static void mendAlongAChain() {
        CallStages x = blocked();
        due("moves(1, 1)", x.moves(1, 1), 2);
        due("nothing is done: netOf(3)", x.netOf(3), 3);
        due("nothing is done: callOf(3, 1)", x.callOf(3, 1), 1);
        due("mend(1, 1)", x.mend(1, 1), 2);
        int[] middles = {0, 1, 1, 0};
        for (int inlet = 0; inlet < 4; inlet++) due("callOf(" + inlet + ", 1)", x.callOf(inlet, 1), middles[inlet]);
        int[] outlets = {2, 1, 4, 0};
        for (int inlet = 0; inlet < 4; inlet++) due("callOf(" + inlet + ", 0)", x.callOf(inlet, 0), outlets[inlet]);
        due("links(0, 0)", x.links(0, 0), 3);
        due("links(0, 1)", x.links(0, 1), 3);
        due("links(1, 0)", x.links(1, 0), 3);
        due("links(1, 1)", x.links(1, 1), 5);
        due("netOf(3)", x.netOf(3), 4);
        due("nothing is moved: mend(5, 5)", x.mend(5, 5), 0);
        due("by the least: callOf(5, 1)", x.callOf(5, 1), 0);
        due("hang(3)", x.hang(3), 0);
        due("hang(2)", x.hang(2), 1);
    }

    /** In the end 3 to 1 can leave by 0 or 3, and come by 2 alone: the chain by 0 and 2 moves three, by 3 and 2 one. */
    private static void mendTakesTheFewest() {
        CallStages x = new CallStages();
        x.net(5, 4, 4);
        x.mend(0, 4);
        x.mend(1, 8);
        x.mend(2, 12);
        x.hang(0);
        due("callOf(1, 1)", x.callOf(1, 1), 1);
        due("callOf(2, 1)", x.callOf(2, 1), 2);
        due("call(4, 0), by 0 at the outlet's switch", x.call(4, 0), 0);
        due("call(5, 9), by 2", x.call(5, 9), 2);
        due("call(6, 13), by 1", x.call(6, 13), 1);
        due("call(8, 5), by 0", x.call(8, 5), 0);
        due("call(9, 10), by 3", x.call(9, 10), 3);
        due("call(10, 14): blocked", x.call(10, 14), NONE);
        due("call(10, 6), by 1", x.call(10, 6), 1);
        due("call(11, 1), by 2", x.call(11, 1), 2);
        due("moves(3, 2): by 3, which is free at both", x.moves(3, 2), 0);
        due("call(12, 2), by 1", x.call(12, 2), 1);
        due("call(13, 11), by 0", x.call(13, 11), 0);
        due("call(14, 3), by 3", x.call(14, 3), 3);
        due("hang(11)", x.hang(11), 2);
        due("call(3, 1): blocked", x.call(3, 1), NONE);
        due("moves(3, 1): by 3 moves one, by 0 three", x.moves(3, 1), 1);
        due("mend(3, 1)", x.mend(3, 1), 1);
        due("callOf(3, 1)", x.callOf(3, 1), 3);
        due("callOf(14, 1)", x.callOf(14, 1), 2);
        due("callOf(4, 1) stays", x.callOf(4, 1), 0);
    }

    private static void mendAndMovesRefused() {
        CallStages x = new CallStages();
        x.net(3, 2, 1);
        due("mend(0, 0)", x.mend(0, 0), 0);
        due("no link of the inlet's switch: mend(1, 2)", x.mend(1, 2), NONE);
        due("no link of the inlet's switch: moves(1, 2)", x.moves(1, 2), NONE);
        due("no link of the outlet's switch: mend(2, 1)", x.mend(2, 1), NONE);
        due("no link of the outlet's switch: moves(2, 1)", x.moves(2, 1), NONE);
        due("nothing is done: callOf(2, 0)", x.callOf(2, 0), NONE);
        due("nothing is done: netOf(3)", x.netOf(3), 1);
        for (int wrong : new int[] {-1, 6, LEAST, MOST}) {
            due("mend(" + wrong + ", 0)", x.mend(wrong, 0), UNKNOWN);
            due("mend(0, " + wrong + ")", x.mend(0, wrong), UNKNOWN);
            due("moves(" + wrong + ", 0)", x.moves(wrong, 0), UNKNOWN);
            due("moves(0, " + wrong + ")", x.moves(0, wrong), UNKNOWN);
        }
        due("mend(0, 5)", x.mend(0, 5), STATE);
        due("mend(5, 0)", x.mend(5, 0), STATE);
        due("moves(0, 5)", x.moves(0, 5), STATE);
        due("moves(5, 0)", x.moves(5, 0), STATE);
    }

    private static void hang() {
        CallStages x = new CallStages();
        x.call(0, 4);
        x.call(1, 5);
        due("hang(1)", x.hang(1), 1);
        due("hang(1) again", x.hang(1), STATE);
        due("hang(-1)", x.hang(-1), UNKNOWN);
        due("hang(6)", x.hang(6), UNKNOWN);
        due("netOf(3)", x.netOf(3), 1);
        due("callOf(1, 1)", x.callOf(1, 1), NONE);
        due("links(1, 0)", x.links(1, 0), 0);
        due("links(1, 1)", x.links(1, 1), 0);
        due("its outlet is free: call(2, 5)", x.call(2, 5), 1);
        due("many(0)", x.many(0), 2);
    }

    private static void anew() {
        CallStages x = new CallStages();
        due("no calls: anew()", x.anew(), 0);
        x.call(0, 0);
        x.call(1, 2);
        due("hang(0)", x.hang(0), 0);
        due("anew()", x.anew(), 1);
        due("callOf(1, 1)", x.callOf(1, 1), 0);
        due("callOf(1, 0)", x.callOf(1, 0), 2);
        due("links(1, 0)", x.links(1, 0), 0);
        due("netOf(3)", x.netOf(3), 1);
        due("anew() again", x.anew(), 0);
        x = blocked();
        x.mend(1, 1);
        due("all anew", x.anew(), anewOf(x));
        due("all are there", x.netOf(3), 4);
    }

    /** What anew() answers is counted by a second object, on which the calls are mended by their inlets. */
    private static int anewOf(CallStages laid) {
        CallStages x = new CallStages();
        int[] outlets = {2, 1, 4, 0};
        int[] before = {0, 1, 1, 0};
        for (int inlet = 0; inlet < 4; inlet++) x.mend(inlet, outlets[inlet]);
        int changed = 0;
        for (int inlet = 0; inlet < 4; inlet++) {
            if (x.callOf(inlet, 1) != before[inlet]) changed++;
            due("anew: callOf(" + inlet + ", 1)", laid.callOf(inlet, 1), x.callOf(inlet, 1));
        }
        return changed;
    }

    private static void callOfAndLinks() {
        CallStages x = new CallStages();
        x.net(5, 4, 7);
        x.call(3, 19);
        x.call(2, 18);
        x.call(19, 0);
        due("callOf(3, 0)", x.callOf(3, 0), 19);
        due("callOf(2, 1)", x.callOf(2, 1), 1);
        due("callOf(0, 0)", x.callOf(0, 0), NONE);
        due("callOf(0, 1)", x.callOf(0, 1), NONE);
        due("callOf(20, 0)", x.callOf(20, 0), UNKNOWN);
        due("callOf(-1, 5), UNKNOWN first", x.callOf(-1, 5), UNKNOWN);
        due("callOf(0, -1), OUTSIDE ahead of NONE", x.callOf(0, -1), OUTSIDE);
        due("callOf(3, 2)", x.callOf(3, 2), OUTSIDE);
        due("links(0, 0)", x.links(0, 0), 17);
        due("links(0, 1)", x.links(0, 1), 17);
        due("links(1, 0)", x.links(1, 0), 1);
        due("links(1, 1)", x.links(1, 1), 16);
        due("links(6, 1)", x.links(6, 1), 0);
        due("links(7, 0)", x.links(7, 0), UNKNOWN);
        due("links(-1, 2), UNKNOWN first", x.links(-1, 2), UNKNOWN);
        due("links(0, 2)", x.links(0, 2), OUTSIDE);
        due("links(0, -1)", x.links(0, -1), OUTSIDE);
    }

    private static void lost() {
        CallStages x = new CallStages();
        due("M 2: lost(1, 2, 0)", x.lost(1, 2, 0), 9);
        due("M 2: lost(1, 2, 1)", x.lost(1, 2, 1), 16);
        due("least terms: lost(10, 20, 0)", x.lost(10, 20, 0), 9);
        due("least terms: lost(10, 20, 1)", x.lost(10, 20, 1), 16);
        due("never busy: lost(0, 7, 0)", x.lost(0, 7, 0), 0);
        due("never busy: lost(0, 7, 1)", x.lost(0, 7, 1), 1);
        due("always busy: lost(7, 7, 0)", x.lost(7, 7, 0), 1);
        due("always busy: lost(7, 7, 1)", x.lost(7, 7, 1), 1);
        due("lost(1, 3, 0)", x.lost(1, 3, 0), 25);
        due("lost(1, 3, 1)", x.lost(1, 3, 1), 81);
        x.net(1, 1, 7);
        due("M 7: lost(3, 20, 0)", x.lost(3, 20, 0), 207616015289871L);
        due("M 7: lost(3, 20, 1)", x.lost(3, 20, 1), 1638400000000000000L);
        int[][] wrong = {{-1, 2, 0}, {3, 2, 0}, {0, 0, 0}, {1, 21, 0}, {1, 2, -1}, {1, 2, 2}, {LEAST, 5, 1}, {0, MOST, 1}, {0, -1, 0}};
        for (int[] w : wrong) {
            due("lost(" + w[0] + ", " + w[1] + ", " + w[2] + ")", x.lost(w[0], w[1], w[2]), Long.MIN_VALUE);
        }
    }
}
