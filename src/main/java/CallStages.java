import java.util.Arrays;

/**
 * Calls through stages of small switches, as the document tells it. The public face looks at what it is given and
 * refuses what the document refuses; the classes inside do the work and are only given what is there.
 */
public final class CallStages {
    public static final int UNKNOWN = -1, OUTSIDE = -2, STATE = -3, FULL = -4, NONE = -9;
    public static final long LOST = Long.MIN_VALUE;

    private static final int NO_FAULT = 0, NULL_FAULT = 1, CAST_FAULT = 2, INDEX_FAULT = 3, SIZE_FAULT = 4;
    private static final int MOST_OUTER = 5, MOST_EACH = 4, MOST_MIDDLES = 7, MOST_CALLS = 20;
    private static final int MOST_POWER = 3, MOST_WIDTH = 8;
    private static final int LEAST_WIRES = 2, MOST_WIRES = 8, MOST_COMPARERS = 30;
    private static final int PLAIN = 0, LONG = 1, TURNED = 2;
    private static final int MOST_PORTS = 5, MOST_TRAFFIC = 50, MOST_QUEUED = 1000;
    private static final int BY_SUM = 0, BY_TURNS = 1, CROSSWISE = 2;
    private static final int MOST_PARTS = 20;
    private static final int SHEETS = 4, LANES = 3, MOST_CELLS = 60;

    private final ThreeStages stages = new ThreeStages();
    private final CrossedNet crossed = new CrossedNet();
    private final HalfNet half = new HalfNet(crossed);
    private final Comparers comparers = new Comparers();
    private final Parting parting = new Parting();
    private final Queues queues = new Queues();
    private final Sheets sheets = new Sheets();
    private final int[] taken = new int[MOST_WIDTH];
    private int latestFault = NO_FAULT;

    public CallStages() {
    }

    // ---- 1 three stages

    public int net(int r, int n, int m) {
        if (!within(r, 1, MOST_OUTER) || !within(n, 1, MOST_EACH) || !within(m, 1, MOST_MIDDLES)) return OUTSIDE;
        stages.build(r, n, m);
        return stages.inlets();
    }

    public int netOf(int what) {
        switch (what) {
            case 0: return stages.outer;
            case 1: return stages.each;
            case 2: return stages.middles;
            case 3: return stages.held;
            case 4: return stages.neverBlocks() ? 1 : 0;
            case 5: return stages.middles >= stages.each ? 1 : 0;
            default: return OUTSIDE;
        }
    }

    public int call(int inlet, int outlet) {
        int refusal = stages.refusalOf(inlet, outlet);
        return refusal != 0 ? refusal : stages.setUpFirst(inlet, outlet);
    }

    public int mend(int inlet, int outlet) {
        int refusal = stages.refusalOf(inlet, outlet);
        return refusal != 0 ? refusal : stages.setUpMended(inlet, outlet);
    }

    public int moves(int inlet, int outlet) {
        int refusal = stages.refusalOf(inlet, outlet);
        return refusal != 0 ? refusal : stages.fewestMoves(inlet, outlet);
    }

    public int hang(int inlet) {
        if (!stages.isPlace(inlet)) return UNKNOWN;
        if (stages.outletOf[inlet] == NONE) return STATE;
        return stages.takeOff(inlet);
    }

    public int anew() {
        return stages.layAllAnew();
    }

    public int callOf(int inlet, int what) {
        if (!stages.isPlace(inlet)) return UNKNOWN;
        if (!within(what, 0, 1)) return OUTSIDE;
        return what == 0 ? stages.outletOf[inlet] : stages.middleOf[inlet];
    }

    public int links(int middle, int side) {
        if (!within(middle, 0, stages.middles - 1)) return UNKNOWN;
        if (!within(side, 0, 1)) return OUTSIDE;
        return stages.takenLinks(middle, side);
    }

    // ---- 2 crossed nets

    public int order(int k, int sheet, int lane, int i) {
        latestFault = NO_FAULT;
        if (!within(sheet, 0, SHEETS - 1)) return UNKNOWN;
        if (!within(lane, 0, LANES - 1) || !within(k, 1, MOST_POWER)) return OUTSIDE;
        int width = 1 << k;
        int found = sheets.faultOfCells(sheet, lane, i, width);
        if (found != NO_FAULT) return faulted(found);
        sheets.read(sheet, i, taken, width);
        return crossed.takeOrder(k, taken) ? width : OUTSIDE;
    }

    public int outlet(int x) {
        return within(x, 0, crossed.width() - 1) ? crossed.outlets[x] : UNKNOWN;
    }

    public long ways() {
        return crossed.countSettings();
    }

    public long first() {
        return crossed.leastSettings();
    }

    public int carry(int k, long settings) {
        if (!within(k, 1, MOST_POWER) || settings >>> CrossedNet.PAIRS[k] != 0) return OUTSIDE;
        crossed.carryBy(k, (int) settings);
        return crossed.width();
    }

    public int line(int x, int j) {
        if (!within(x, 0, crossed.width() - 1) || !within(j, 0, crossed.power - 1)) return UNKNOWN;
        return half.lineBehind(x, j);
    }

    public int clash(int x, int y) {
        if (!within(x, 0, crossed.width() - 1) || !within(y, 0, crossed.width() - 1)) return UNKNOWN;
        return x == y ? STATE : half.rowOfClash(x, y);
    }

    public int rounds() {
        return half.partInlets();
    }

    public int round(int x) {
        if (!within(x, 0, crossed.width() - 1)) return UNKNOWN;
        half.partInlets();
        return half.setOf[x];
    }

    // ---- 3 comparers

    public int wires(int w) {
        if (!within(w, LEAST_WIRES, MOST_WIRES)) return OUTSIDE;
        int had = comparers.count;
        comparers.begin(w);
        return had;
    }

    public int compare(int a, int b) {
        if (!within(a, 0, comparers.width - 1) || !within(b, 0, comparers.width - 1)) return UNKNOWN;
        if (a == b) return OUTSIDE;
        return comparers.count >= MOST_COMPARERS ? FULL : comparers.append(a, b);
    }

    public int back() {
        return comparers.count == 0 ? STATE : comparers.dropLatest();
    }

    public int sorter(int what) {
        switch (what) {
            case 0: return comparers.count;
            case 1: return comparers.depth;
            case 2: return comparers.firstUnsorted() == NONE ? 1 : 0;
            case 3: return comparers.firstUnsorted();
            case 4: return comparers.sortedRows();
            case 5: return comparers.idleOnes();
            default: return OUTSIDE;
        }
    }

    public int comparer(int c, int what) {
        if (!within(c, 0, comparers.count - 1)) return UNKNOWN;
        switch (what) {
            case 0: return comparers.lesser[c];
            case 1: return comparers.greater[c];
            case 2: return comparers.step[c];
            case 3: return comparers.idle[c] ? 1 : 0;
            case 4: return comparers.kindOf(c);
            default: return OUTSIDE;
        }
    }

    public int sort(int sheet, int lane, int i) {
        latestFault = NO_FAULT;
        if (!within(sheet, 0, SHEETS - 1)) return UNKNOWN;
        if (!within(lane, 0, LANES - 1)) return OUTSIDE;
        int found = sheets.faultOfCells(sheet, lane, i, comparers.width);
        if (found != NO_FAULT) return faulted(found);
        sheets.read(sheet, i, taken, comparers.width);
        comparers.lead(taken);
        return sheets.write(sheet, i, taken, comparers.width);
    }

    // ---- 4 the crossbar

    public int bar(int p) {
        if (!within(p, 1, MOST_PORTS)) return OUTSIDE;
        int was = queues.ports;
        parting.begin(p);
        queues.begin(p);
        return was;
    }

    public int traffic(int i, int o, int v) {
        if (!isPort(i) || !isPort(o)) return UNKNOWN;
        return within(v, 0, MOST_TRAFFIC) ? parting.change(i, o, v) : OUTSIDE;
    }

    public int span() {
        return parting.wholeSpan();
    }

    public int parted(int k, int i) {
        if (!within(k, 0, parting.wholeSpan() - 1) || !isPort(i)) return UNKNOWN;
        return parting.outletIn(k, i);
    }

    public int changes() {
        return parting.phasesInAll();
    }

    public int slot(int rule, int sheet, int lane, int i) {
        latestFault = NO_FAULT;
        if (!within(sheet, 0, SHEETS - 1)) return UNKNOWN;
        if (!within(lane, 0, LANES - 1) || !within(rule, BY_SUM, CROSSWISE)) return OUTSIDE;
        int found = sheets.faultOfCells(sheet, lane, i, queues.ports);
        if (found != NO_FAULT) return faulted(found);
        sheets.read(sheet, i, taken, queues.ports);
        int refusal = queues.refusalOf(taken);
        return refusal != 0 ? refusal : queues.serve(rule, taken);
    }

    public int queue(int i, int o, int what) {
        if (!within(what, 0, 3)) return OUTSIDE;
        if (!isPort(i) || what == 0 && !isPort(o)) return UNKNOWN;
        switch (what) {
            case 0: return queues.queued[i][o];
            case 1: return queues.matched[i];
            case 2: return queues.inletPointer[i];
            default: return queues.outletPointer[i];
        }
    }

    public int waiting() {
        return queues.inAll();
    }

    public long lost(int p, int q, int which) {
        if (!within(q, 1, MOST_PARTS) || !within(p, 0, q) || !within(which, 0, 1)) return LOST;
        return stages.shareLost(p, q, which);
    }

    // ---- sheets, parts

    public int sheet(int k, int lane, int n) {
        latestFault = NO_FAULT;
        if (!within(k, 0, SHEETS - 1)) return UNKNOWN;
        if (!within(lane, 0, LANES - 1) || n > MOST_CELLS) return OUTSIDE;
        if (n < 0) return faulted(SIZE_FAULT);
        sheets.layRow(k, lane, n);
        return 1;
    }

    public int lose(int k) {
        if (!within(k, 0, SHEETS - 1)) return UNKNOWN;
        return sheets.clear(k) ? 1 : 0;
    }

    public int put(int k, int i, int v) {
        latestFault = NO_FAULT;
        if (!within(k, 0, SHEETS - 1)) return UNKNOWN;
        int found = sheets.faultOfCells(k, sheets.lanes[k], i, 1);
        if (found != NO_FAULT) return faulted(found);
        sheets.change(k, i, v);
        return 1;
    }

    public long cell(int k, int i, int lane) {
        latestFault = NO_FAULT;
        if (!within(k, 0, SHEETS - 1) || !within(lane, 0, LANES - 1)) return LOST;
        latestFault = sheets.faultOfCells(k, lane, i, 1);
        return latestFault == NO_FAULT ? sheets.cells[k][i] : LOST;
    }

    public int tell(int c) {
        return within(c, 0, comparers.count - 1) ? comparers.told(c) : UNKNOWN;
    }

    public int show(int c) {
        return within(c, 0, comparers.count - 1) ? comparers.shown(c) : UNKNOWN;
    }

    public int as(int c, int kind) {
        latestFault = NO_FAULT;
        if (!within(c, 0, comparers.count - 1)) return UNKNOWN;
        if (!within(kind, PLAIN, TURNED)) return OUTSIDE;
        return kind > comparers.kindOf(c) ? faulted(CAST_FAULT) : 1;
    }

    public int trace() {
        return comparers.traced;
    }

    public int fault() {
        return latestFault;
    }

    public int many(int what) {
        switch (what) {
            case 0: return stages.held;
            case 1: return comparers.count;
            case 2: return comparers.width;
            case 3: return queues.ports;
            case 4: return crossed.power;
            default: return OUTSIDE;
        }
    }

    private static boolean within(int value, int least, int most) {
        return value >= least && value <= most;
    }

    private boolean isPort(int i) {
        return within(i, 0, queues.ports - 1);
    }

    private int faulted(int which) {
        latestFault = which;
        return -10 - which;
    }

    /** THE NET of three stages and its CALLS, which are told by their inlets. */
    private static final class ThreeStages {
        private int outer = 3;
        private int each = 2;
        private int middles = 2;
        private int held = 0;
        private final int[] outletOf = new int[MOST_CALLS];
        private final int[] inletOf = new int[MOST_CALLS];
        private final int[] middleOf = new int[MOST_CALLS];
        private final int[] earlierMiddleOf = new int[MOST_CALLS];
        // By outer and middle switch: the inlet of the CALL that has the LINK, or NONE.
        private final int[][] inletLinks = new int[MOST_OUTER][MOST_MIDDLES];
        private final int[][] outletLinks = new int[MOST_OUTER][MOST_MIDDLES];
        private final int[] chain = new int[MOST_CALLS];
        private int bestA = NONE;
        private int bestB = NONE;

        ThreeStages() {
            forgetCalls();
        }

        void build(int r, int n, int m) {
            outer = r;
            each = n;
            middles = m;
            forgetCalls();
        }

        int inlets() {
            return outer * each;
        }

        boolean isPlace(int i) {
            return within(i, 0, inlets() - 1);
        }

        boolean neverBlocks() {
            return middles >= 2 * each - 1 || outer == 1 && middles >= each;
        }

        int refusalOf(int inlet, int outlet) {
            if (!isPlace(inlet) || !isPlace(outlet)) return UNKNOWN;
            return outletOf[inlet] != NONE || inletOf[outlet] != NONE ? STATE : 0;
        }

        int setUpFirst(int inlet, int outlet) {
            int s = switchOf(inlet);
            int t = switchOf(outlet);
            for (int a = 0; a < middles; a++) {
                if (inletLinks[s][a] == NONE && outletLinks[t][a] == NONE) {
                    join(inlet, outlet);
                    goBy(inlet, a);
                    return a;
                }
            }
            return NONE;
        }

        int setUpMended(int inlet, int outlet) {
            int moved = fewestMoves(inlet, outlet);
            if (moved == NONE) return NONE;
            join(inlet, outlet);
            goByBest(inlet);
            return moved;
        }

        /** MOVED by the CHAIN that a MENDED CALL takes, whose switches are left in bestA and bestB. */
        int fewestMoves(int inlet, int outlet) {
            int s = switchOf(inlet);
            int t = switchOf(outlet);
            int fewest = NONE;
            for (int a = 0; a < middles; a++) {
                for (int b = 0; b < middles; b++) {
                    if (inletLinks[s][a] != NONE || outletLinks[t][b] != NONE) continue;
                    int moved = followChain(t, a, b);
                    if (fewest == NONE || moved < fewest) {
                        fewest = moved;
                        bestA = a;
                        bestB = b;
                    }
                }
            }
            return fewest;
        }

        int takeOff(int inlet) {
            int middle = middleOf[inlet];
            freeLinks(inlet);
            inletOf[outletOf[inlet]] = NONE;
            outletOf[inlet] = NONE;
            held--;
            return middle;
        }

        int layAllAnew() {
            System.arraycopy(middleOf, 0, earlierMiddleOf, 0, MOST_CALLS);
            freeAllLinks();
            for (int inlet = 0; inlet < inlets(); inlet++) {
                if (outletOf[inlet] != NONE && !mendAgain(inlet)) {
                    goBackToEarlier();
                    return STATE;
                }
            }
            int changed = 0;
            for (int inlet = 0; inlet < inlets(); inlet++) {
                if (middleOf[inlet] != earlierMiddleOf[inlet]) changed++;
            }
            return changed;
        }

        int takenLinks(int middle, int side) {
            int bits = 0;
            for (int s = 0; s < outer; s++) {
                int holder = side == 0 ? inletLinks[s][middle] : outletLinks[s][middle];
                if (holder != NONE) bits |= 1 << s;
            }
            return bits;
        }

        /** Of a middle switch q q ways of two LINKS, (q - p) (q - p) have both free: the rest is no way through. */
        long shareLost(int p, int q, int which) {
            long all = (long) q * q;
            long bad = all - (long) (q - p) * (q - p);
            long common = commonDivisor(bad, all);
            if (common > 1) {
                bad /= common;
                all /= common;
            }
            long part = which == 0 ? bad : all;
            long share = 1;
            for (int a = 0; a < middles; a++) share *= part;
            return share;
        }

        private static long commonDivisor(long x, long y) {
            long a = x;
            long b = y;
            for (int step = 0; step < 100 && b != 0; step++) {
                long rest = a % b;
                a = b;
                b = rest;
            }
            return a;
        }

        private int switchOf(int place) {
            return each > 0 ? place / each : 0;
        }

        private void forgetCalls() {
            held = 0;
            Arrays.fill(outletOf, NONE);
            Arrays.fill(inletOf, NONE);
            Arrays.fill(middleOf, NONE);
            freeAllLinks();
        }

        private void freeAllLinks() {
            for (int s = 0; s < MOST_OUTER; s++) {
                Arrays.fill(inletLinks[s], NONE);
                Arrays.fill(outletLinks[s], NONE);
            }
        }

        private void join(int inlet, int outlet) {
            outletOf[inlet] = outlet;
            inletOf[outlet] = inlet;
            held++;
        }

        private void goBy(int inlet, int middle) {
            middleOf[inlet] = middle;
            inletLinks[switchOf(inlet)][middle] = inlet;
            outletLinks[switchOf(outletOf[inlet])][middle] = inlet;
        }

        private void freeLinks(int inlet) {
            int middle = middleOf[inlet];
            inletLinks[switchOf(inlet)][middle] = NONE;
            outletLinks[switchOf(outletOf[inlet])][middle] = NONE;
            middleOf[inlet] = NONE;
        }

        /** Lays the CALLS that are in the way into the row chain, those that leave a first, by turns: how many. */
        private int followChain(int t, int a, int b) {
            int length = 0;
            int next = outletLinks[t][a];
            for (int step = 0; step < MOST_CALLS && next != NONE; step++) {
                chain[step] = next;
                length = step + 1;
                boolean leavesA = step % 2 == 0;
                next = leavesA ? inletLinks[switchOf(next)][b] : outletLinks[switchOf(outletOf[next])][a];
            }
            return length;
        }

        private void moveChain(int t, int a, int b) {
            int length = followChain(t, a, b);
            // All LINKS are freed ahead of any that is taken: neighbours in the CHAIN change places.
            for (int step = 0; step < length; step++) freeLinks(chain[step]);
            for (int step = 0; step < length; step++) goBy(chain[step], step % 2 == 0 ? b : a);
        }

        private boolean mendAgain(int inlet) {
            if (fewestMoves(inlet, outletOf[inlet]) == NONE) return false;
            goByBest(inlet);
            return true;
        }

        private void goByBest(int inlet) {
            moveChain(switchOf(outletOf[inlet]), bestA, bestB);
            goBy(inlet, bestA);
        }

        private void goBackToEarlier() {
            freeAllLinks();
            for (int inlet = 0; inlet < inlets(); inlet++) {
                if (outletOf[inlet] != NONE) goBy(inlet, earlierMiddleOf[inlet]);
            }
        }
    }

    /** The ORDER, and the CROSSED NET that carries it. */
    private static final class CrossedNet {
        private static final int[] PAIRS = {0, 1, 6, 20};

        private int power = 1;
        private final int[] outlets = {0, 1, 0, 0, 0, 0, 0, 0};
        // Orders of the nets of each K that stand one inside the other; both inner nets of one share a row.
        private final int[][] inner = new int[MOST_POWER + 1][MOST_WIDTH];

        int width() {
            return 1 << power;
        }

        /** Whether the row is an ORDER; if it is none, nothing changes. */
        boolean takeOrder(int k, int[] row) {
            int width = 1 << k;
            int seen = 0;
            for (int x = 0; x < width; x++) {
                if (!within(row[x], 0, width - 1)) return false;
                seen |= 1 << row[x];
            }
            if (seen != (1 << width) - 1) return false;
            power = k;
            System.arraycopy(row, 0, outlets, 0, width);
            return true;
        }

        void carryBy(int k, int settings) {
            power = k;
            for (int x = 0; x < width(); x++) outlets[x] = carried(k, settings, x);
        }

        long countSettings() {
            System.arraycopy(outlets, 0, inner[power], 0, width());
            return settingsOf(power, 0);
        }

        long leastSettings() {
            System.arraycopy(outlets, 0, inner[power], 0, width());
            return leastOf(power, 0);
        }

        private static int carried(int k, int settings, int x) {
            if (k <= 1) return x ^ (settings & 1);
            int width = 1 << k;
            int net = (x & 1) ^ bit(settings, x >> 1);
            int innerSettings = settings >> width + net * PAIRS[k - 1];
            int y = carried(k - 1, innerSettings, x >> 1);
            return 2 * y + (net ^ bit(settings, width / 2 + y));
        }

        private long settingsOf(int k, int from) {
            if (k <= 1) return 1;
            int half = 1 << (k - 1);
            long found = 0;
            for (int firstRow = 0; firstRow < 1 << half; firstRow++) {
                if (splitBy(firstRow, k, from) != NONE) found += settingsOf(k - 1, 0) * settingsOf(k - 1, half);
            }
            return found;
        }

        private long leastOf(int k, int from) {
            if (k <= 1) return inner[1][from];
            int width = 1 << k;
            int half = width / 2;
            long least = NONE;
            for (int firstRow = 0; firstRow < 1 << half; firstRow++) {
                int lastRow = splitBy(firstRow, k, from);
                if (lastRow == NONE) continue;
                long innerOnes = leastOf(k - 1, 0) | leastOf(k - 1, half) << PAIRS[k - 1];
                long settings = firstRow | lastRow << half | innerOnes << width;
                if (least == NONE || settings < least) least = settings;
            }
            return least;
        }

        /** The last row that goes with a first row, the inner orders being laid out; NONE: there is none. */
        private int splitBy(int firstRow, int k, int from) {
            int width = 1 << k;
            int half = width / 2;
            int lastRow = 0;
            int reached = 0;
            for (int x = 0; x < width; x++) {
                int y = inner[k][from + x];
                int net = (x & 1) ^ bit(firstRow, x >> 1);
                int innerOutlet = net * half + (y >> 1);
                if (bit(reached, innerOutlet) == 1) return NONE;
                reached |= 1 << innerOutlet;
                lastRow |= (net ^ (y & 1)) << (y >> 1);
                inner[k - 1][net * half + (x >> 1)] = y >> 1;
            }
            return lastRow;
        }

        private static int bit(int bits, int place) {
            return bits >> place & 1;
        }
    }

    /** THE HALF, in which each finds its way by the bits of its outlet in the ORDER. */
    private static final class HalfNet {
        private final CrossedNet net;
        private final int[] setOf = new int[MOST_WIDTH];
        private final int[] clashing = new int[MOST_WIDTH];
        private final int[] members = new int[MOST_WIDTH];

        HalfNet(CrossedNet net) {
            this.net = net;
        }

        int lineBehind(int x, int j) {
            int line = x;
            for (int row = 0; row <= j; row++) {
                int side = net.outlets[x] >> (net.power - 1 - row) & 1;
                line = shuffled(line) & ~1 | side;
            }
            return line;
        }

        int rowOfClash(int x, int y) {
            for (int row = 0; row < net.power; row++) {
                if (lineBehind(x, row) == lineBehind(y, row)) return row;
            }
            return NONE;
        }

        /** ROUNDS; the sets are left in setOf. */
        int partInlets() {
            findClashes();
            for (int sets = 1; sets <= net.width(); sets++) {
                Arrays.fill(members, 0);
                if (canPart(0, 0, sets)) return sets;
            }
            return net.width();
        }

        private int shuffled(int line) {
            int width = net.width();
            return line < width / 2 ? 2 * line : 2 * line - (width - 1);
        }

        private void findClashes() {
            Arrays.fill(clashing, 0);
            for (int x = 0; x < net.width(); x++) {
                for (int y = 0; y < net.width(); y++) {
                    if (x != y && rowOfClash(x, y) != NONE) clashing[x] |= 1 << y;
                }
            }
        }

        /** Whether the inlets from x on find a place in at most so many sets, of which some are begun. */
        private boolean canPart(int x, int begun, int sets) {
            if (x >= net.width()) return true;
            for (int set = 0; set <= begun && set < sets; set++) {
                if ((members[set] & clashing[x]) != 0) continue;
                members[set] |= 1 << x;
                setOf[x] = set;
                if (canPart(x + 1, Math.max(begun, set + 1), sets)) return true;
                members[set] &= ~(1 << x);
            }
            return false;
        }
    }

    /** WIRES and their COMPARERS; after each change all rows of 0 and 1 are led through at once. */
    private static final class Comparers {
        private static final int OWN_SHOWN = 30;
        private static final int ROWS_A_WORD = 64, MOST_WORDS = 4;
        // What the first 64 rows have on the wires that change within them, a bit for each row.
        private static final long[] ROWS_IN_WORD = {
            0xAAAAAAAAAAAAAAAAL, 0xCCCCCCCCCCCCCCCCL, 0xF0F0F0F0F0F0F0F0L,
            0xFF00FF00FF00FF00L, 0xFFFF0000FFFF0000L, 0xFFFFFFFF00000000L};

        private int width = 4;
        private int count = 0;
        private int depth = 0;
        private int traced = 0;
        private final int[] lesser = new int[MOST_COMPARERS];
        private final int[] greater = new int[MOST_COMPARERS];
        private final int[] step = new int[MOST_COMPARERS];
        private final boolean[] idle = new boolean[MOST_COMPARERS];
        private final int[] stepsOn = new int[MOST_WIRES];
        // By wire: what each row has there, a bit for each row.
        private final long[][] rowsOn = new long[MOST_WIRES][MOST_WORDS];

        Comparers() {
            leadAllRows();
        }

        void begin(int w) {
            width = w;
            count = 0;
            leadAllRows();
        }

        int append(int a, int b) {
            lesser[count] = a;
            greater[count] = b;
            count++;
            leadAllRows();
            return count - 1;
        }

        int dropLatest() {
            count--;
            leadAllRows();
            return count;
        }

        void lead(int[] row) {
            for (int c = 0; c < count; c++) {
                int low = Math.min(row[lesser[c]], row[greater[c]]);
                int high = Math.max(row[lesser[c]], row[greater[c]]);
                row[lesser[c]] = low;
                row[greater[c]] = high;
            }
        }

        int firstUnsorted() {
            for (int word = 0; word < words(); word++) {
                long wrong = unsortedIn(word);
                if (wrong != 0) return word * ROWS_A_WORD + Long.bitCount((wrong & -wrong) - 1);
            }
            return NONE;
        }

        int sortedRows() {
            int sorted = 1 << width;
            for (int word = 0; word < words(); word++) sorted -= Long.bitCount(unsortedIn(word));
            return sorted;
        }

        int idleOnes() {
            int found = 0;
            for (int c = 0; c < count; c++) {
                if (idle[c]) found++;
            }
            return found;
        }

        int kindOf(int c) {
            if (lesser[c] > greater[c]) return TURNED;
            return greater[c] - lesser[c] > 1 ? LONG : PLAIN;
        }

        int told(int c) {
            switch (kindOf(c)) {
                case TURNED: return toldTurned(c);
                case LONG: return toldLong(c);
                default: return toldPlain(c);
            }
        }

        int shown(int c) {
            boolean ownBody = kindOf(c) == TURNED;
            leaveTrace(ownBody ? 5 : 4);
            return ownBody ? OWN_SHOWN : c;
        }

        private int toldPlain(int c) {
            leaveTrace(1);
            return lesser[c];
        }

        private int toldLong(int c) {
            leaveTrace(2);
            return toldPlain(c) + greater[c];
        }

        private int toldTurned(int c) {
            leaveTrace(3);
            return toldLong(c) + toldPlain(c);
        }

        private void leaveTrace(int body) {
            traced = 31 * traced + body;
        }

        private int words() {
            return Math.max(1, (1 << width) / ROWS_A_WORD);
        }

        private void leadAllRows() {
            depth = 0;
            Arrays.fill(stepsOn, 0);
            layAllRows();
            for (int c = 0; c < count; c++) {
                step[c] = Math.max(stepsOn[lesser[c]], stepsOn[greater[c]]);
                stepsOn[lesser[c]] = step[c] + 1;
                stepsOn[greater[c]] = step[c] + 1;
                depth = Math.max(depth, step[c] + 1);
                idle[c] = !changesRows(rowsOn[lesser[c]], rowsOn[greater[c]]);
            }
        }

        /** Rows 64 w and on are in word w; fewer than 64 are laid again and again, till the word is full. */
        private void layAllRows() {
            int inside = ROWS_IN_WORD.length;
            for (int wire = 0; wire < width; wire++) {
                for (int word = 0; word < words(); word++) {
                    rowsOn[wire][word] = wire < inside ? ROWS_IN_WORD[wire] : -(long) (word >> (wire - inside) & 1);
                }
            }
        }

        /** Leads all rows through one COMPARER: whether any had 1 where the lesser one goes and 0 at the other. */
        private boolean changesRows(long[] low, long[] high) {
            long changed = 0;
            for (int word = 0; word < words(); word++) {
                long swapped = low[word] & ~high[word];
                low[word] ^= swapped;
                high[word] ^= swapped;
                changed |= swapped;
            }
            return changed != 0;
        }

        private long unsortedIn(int word) {
            long wrong = 0;
            for (int wire = 0; wire + 1 < width; wire++) wrong |= rowsOn[wire][word] & ~rowsOn[wire + 1][word];
            int rows = 1 << width;
            return rows < ROWS_A_WORD ? wrong & (1L << rows) - 1 : wrong;
        }
    }

    /**
     * TRAFFIC and its ROUNDS. Those that are alike follow one another and are kept as one phase: a round's row stays
     * the first one till one of its cells is used up or a line that it leaves out comes up to SPAN.
     */
    private static final class Parting {
        // Each phase ends with a cell used up or a line come up to SPAN for good.
        private static final int MOST_PHASES = MOST_PORTS * MOST_PORTS + 2 * MOST_PORTS + 1;

        private int ports = 3;
        private int phases = 0;
        private boolean stale = false;
        private int spanLeft = 0;
        private final int[][] table = new int[MOST_PORTS][MOST_PORTS];
        private final int[][] left = new int[MOST_PORTS][MOST_PORTS];
        private final int[] inletSum = new int[MOST_PORTS];
        private final int[] outletSum = new int[MOST_PORTS];
        private final int[][] phaseRow = new int[MOST_PHASES][MOST_PORTS];
        private final int[] phaseEnd = new int[MOST_PHASES];
        // By inlet: a bit for each set of outlets given away, if the inlets from it on can then go on.
        private final int[] goesOn = new int[MOST_PORTS + 1];

        void begin(int p) {
            ports = p;
            for (int i = 0; i < MOST_PORTS; i++) Arrays.fill(table[i], 0);
            stale = true;
        }

        int change(int i, int o, int v) {
            int was = table[i][o];
            table[i][o] = v;
            stale = true;
            return was;
        }

        int wholeSpan() {
            addUp(table);
            return spanLeft;
        }

        int phasesInAll() {
            partIfStale();
            return phases;
        }

        int outletIn(int round, int i) {
            partIfStale();
            for (int phase = 0; phase < phases; phase++) {
                if (round < phaseEnd[phase]) return phaseRow[phase][i];
            }
            return NONE;
        }

        private void partIfStale() {
            if (!stale) return;
            stale = false;
            for (int i = 0; i < ports; i++) System.arraycopy(table[i], 0, left[i], 0, ports);
            addUp(left);
            int end = 0;
            for (phases = 0; phases < MOST_PHASES && spanLeft > 0; phases++) {
                int[] row = phaseRow[phases];
                chooseRow(row);
                int length = roundsOf(row);
                takeOff(row, length);
                end += length;
                phaseEnd[phases] = end;
                addUp(left);
            }
        }

        private void addUp(int[][] cells) {
            Arrays.fill(inletSum, 0);
            Arrays.fill(outletSum, 0);
            for (int i = 0; i < ports; i++) {
                for (int o = 0; o < ports; o++) {
                    inletSum[i] += cells[i][o];
                    outletSum[o] += cells[i][o];
                }
            }
            spanLeft = 0;
            for (int i = 0; i < ports; i++) spanLeft = Math.max(spanLeft, Math.max(inletSum[i], outletSum[i]));
        }

        private void chooseRow(int[] row) {
            findWhatGoesOn();
            int given = 0;
            for (int i = 0; i < ports; i++) {
                row[i] = NONE;
                for (int o = 0; o < ports && row[i] == NONE; o++) {
                    if (canGive(i, o, given)) row[i] = o;
                }
                if (row[i] != NONE) given |= 1 << row[i];
            }
        }

        private void findWhatGoesOn() {
            int needed = 0;
            for (int o = 0; o < ports; o++) {
                if (outletSum[o] == spanLeft) needed |= 1 << o;
            }
            goesOn[ports] = 0;
            for (int given = 0; given < 1 << ports; given++) {
                if ((needed & ~given) == 0) goesOn[ports] |= 1 << given;
            }
            for (int i = ports - 1; i >= 0; i--) {
                goesOn[i] = inletSum[i] < spanLeft ? goesOn[i + 1] : 0;
                for (int given = 0; given < 1 << ports; given++) {
                    if (canGiveAny(i, given)) goesOn[i] |= 1 << given;
                }
            }
        }

        private boolean canGiveAny(int i, int given) {
            for (int o = 0; o < ports; o++) {
                if (canGive(i, o, given)) return true;
            }
            return false;
        }

        private boolean canGive(int i, int o, int given) {
            return left[i][o] > 0 && (given >> o & 1) == 0 && (goesOn[i + 1] >> (given | 1 << o) & 1) == 1;
        }

        private int roundsOf(int[] row) {
            int length = spanLeft;
            int given = 0;
            for (int i = 0; i < ports; i++) {
                boolean has = row[i] != NONE;
                length = Math.min(length, has ? left[i][row[i]] : spanLeft - inletSum[i]);
                if (has) given |= 1 << row[i];
            }
            for (int o = 0; o < ports; o++) {
                if ((given >> o & 1) == 0) length = Math.min(length, spanLeft - outletSum[o]);
            }
            return length;
        }

        private void takeOff(int[] row, int length) {
            for (int i = 0; i < ports; i++) {
                if (row[i] != NONE) left[i][row[i]] -= length;
            }
        }
    }

    /** QUEUES of the crossbar, POINTERS, and whom the latest SLOT matched. */
    private static final class Queues {
        private static final int TURNS = 3;

        private int ports = 3;
        private final int[][] queued = new int[MOST_PORTS][MOST_PORTS];
        private final int[] matched = new int[MOST_PORTS];
        private final int[] matchedInlet = new int[MOST_PORTS];
        private final int[] inletPointer = new int[MOST_PORTS];
        private final int[] outletPointer = new int[MOST_PORTS];
        private final int[] takes = new int[MOST_PORTS];
        // By inlet and set of outlets given away: the greatest sum from that inlet on.
        private final int[][] best = new int[MOST_PORTS + 1][1 << MOST_PORTS];

        Queues() {
            matchNone();
        }

        void begin(int p) {
            ports = p;
            for (int i = 0; i < MOST_PORTS; i++) Arrays.fill(queued[i], 0);
            Arrays.fill(inletPointer, 0);
            Arrays.fill(outletPointer, 0);
            matchNone();
        }

        int refusalOf(int[] comes) {
            for (int i = 0; i < ports; i++) {
                if (!within(comes[i], -1, ports - 1)) return OUTSIDE;
            }
            for (int i = 0; i < ports; i++) {
                if (comes[i] >= 0 && queued[i][comes[i]] >= MOST_QUEUED) return FULL;
            }
            return 0;
        }

        int serve(int rule, int[] comes) {
            for (int i = 0; i < ports; i++) {
                if (comes[i] >= 0) queued[i][comes[i]]++;
            }
            matchNone();
            switch (rule) {
                case BY_SUM: matchBySum(); break;
                case BY_TURNS: matchByTurns(); break;
                default: matchCrosswise(); break;
            }
            int served = 0;
            for (int i = 0; i < ports; i++) {
                if (matched[i] == NONE) continue;
                queued[i][matched[i]]--;
                served++;
            }
            return served;
        }

        int inAll() {
            int all = 0;
            for (int i = 0; i < ports; i++) {
                for (int o = 0; o < ports; o++) all += queued[i][o];
            }
            return all;
        }

        private void matchNone() {
            Arrays.fill(matched, NONE);
            Arrays.fill(matchedInlet, NONE);
        }

        private void match(int i, int o) {
            matched[i] = o;
            matchedInlet[o] = i;
        }

        private boolean canMatch(int i, int o) {
            return matched[i] == NONE && matchedInlet[o] == NONE && queued[i][o] > 0;
        }

        private void matchBySum() {
            findBestSums();
            int given = 0;
            for (int i = 0; i < ports; i++) {
                for (int o = 0; o < ports && matched[i] == NONE; o++) {
                    if (canMatch(i, o) && sumWith(i, o, given) == best[i][given]) match(i, o);
                }
                if (matched[i] != NONE) given |= 1 << matched[i];
            }
        }

        private void findBestSums() {
            Arrays.fill(best[ports], 0);
            for (int i = ports - 1; i >= 0; i--) {
                for (int given = 0; given < 1 << ports; given++) {
                    int most = best[i + 1][given];
                    for (int o = 0; o < ports; o++) {
                        if ((given >> o & 1) == 0 && queued[i][o] > 0) most = Math.max(most, sumWith(i, o, given));
                    }
                    best[i][given] = most;
                }
            }
        }

        private int sumWith(int i, int o, int given) {
            return queued[i][o] + best[i + 1][given | 1 << o];
        }

        private void matchByTurns() {
            for (int turn = 0; turn < TURNS; turn++) {
                for (int o = 0; o < ports; o++) takes[o] = firstThatAsks(o);
                for (int i = 0; i < ports; i++) {
                    int o = firstThatTook(i);
                    if (o == NONE) continue;
                    match(i, o);
                    if (turn == 0) {
                        inletPointer[i] = aroundPorts(o + 1);
                        outletPointer[o] = aroundPorts(i + 1);
                    }
                }
            }
        }

        private int firstThatAsks(int o) {
            for (int d = 0; d < ports; d++) {
                int i = aroundPorts(outletPointer[o] + d);
                if (canMatch(i, o)) return i;
            }
            return NONE;
        }

        private int firstThatTook(int i) {
            for (int d = 0; d < ports; d++) {
                int o = aroundPorts(inletPointer[i] + d);
                if (takes[o] == i) return o;
            }
            return NONE;
        }

        private void matchCrosswise() {
            for (int d = 0; d < ports; d++) {
                for (int i = 0; i < ports; i++) {
                    int o = aroundPorts(i + d);
                    if (canMatch(i, o)) match(i, o);
                }
            }
        }

        private int aroundPorts(int i) {
            return i < ports ? i : i - ports;
        }
    }

    /** SHEETS: rows of numbers, each cut to the LANE of its row. */
    private static final class Sheets {
        private static final int NOTHING = -1;
        private static final int BYTES = 0, SHORTS = 1;

        private final int[] lanes = {NOTHING, NOTHING, NOTHING, NOTHING};
        private final int[] lengths = new int[SHEETS];
        private final int[][] cells = new int[SHEETS][MOST_CELLS];

        void layRow(int k, int lane, int n) {
            lanes[k] = lane;
            lengths[k] = n;
            Arrays.fill(cells[k], 0);
        }

        boolean clear(int k) {
            boolean had = lanes[k] != NOTHING;
            lanes[k] = NOTHING;
            lengths[k] = 0;
            return had;
        }

        int faultOfCells(int k, int lane, int i, int howMany) {
            if (lanes[k] == NOTHING) return NULL_FAULT;
            if (lanes[k] != lane) return CAST_FAULT;
            return within(i, 0, lengths[k] - howMany) ? NO_FAULT : INDEX_FAULT;
        }

        void change(int k, int i, int v) {
            cells[k][i] = cut(lanes[k], v);
        }

        void read(int k, int i, int[] row, int howMany) {
            System.arraycopy(cells[k], i, row, 0, howMany);
        }

        /** How many cells are other than they were. */
        int write(int k, int i, int[] row, int howMany) {
            int changed = 0;
            for (int place = 0; place < howMany; place++) {
                if (cells[k][i + place] != row[place]) changed++;
                change(k, i + place, row[place]);
            }
            return changed;
        }

        private static int cut(int lane, int v) {
            if (lane == BYTES) return (byte) v;
            return lane == SHORTS ? (short) v : v;
        }
    }
}
