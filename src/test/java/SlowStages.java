import java.util.ArrayList;
import java.util.Arrays;
import java.util.HashMap;
import java.util.List;
import java.util.Map;
import java.util.TreeMap;

/**
 * The document once more, by trying all there is to try: slow, and by other ways than the class goes, so that runs of
 * calls on both can be held against one another. Both come from one reading of the document: what is read wrongly in
 * both is not found so.
 */
final class SlowStages {
    private static final int UNKNOWN = -1, OUTSIDE = -2, STATE = -3, FULL = -4, NONE = -9;
    private static final int[] PAIRS = {0, 1, 6, 20};

    private int r = 3, n = 2, m = 2;
    /** By inlet: outlet, middle switch. */
    private TreeMap<Integer, int[]> calls = new TreeMap<>();
    private int k = 1;
    private int[] order = {0, 1};
    private int w = 4;
    private final List<int[]> comparers = new ArrayList<>();
    private int p = 3;
    private int[][] traffic = new int[5][5];
    private List<int[]> rounds = null;
    private int[][] queues = new int[5][5];
    private int[] pointIn = new int[5], pointOut = new int[5];
    private int[] latest = {NONE, NONE, NONE, NONE, NONE};
    /** A byte[], a short[], an int[] or null. */
    private final Object[] sheets = new Object[4];
    private int trace = 0;
    private int fault = 0;

    // ---- 1

    int net(int r, int n, int m) {
        if (r < 1 || r > 5 || n < 1 || n > 4 || m < 1 || m > 7) return OUTSIDE;
        this.r = r;
        this.n = n;
        this.m = m;
        calls.clear();
        return r * n;
    }

    int netOf(int what) {
        int never = m >= 2 * n - 1 || r == 1 && m >= n ? 1 : 0;
        int[] all = {r, n, m, calls.size(), never, m >= n ? 1 : 0};
        return what < 0 || what > 5 ? OUTSIDE : all[what];
    }

    private int holder(Map<Integer, int[]> in, int middle, int side, int outer) {
        for (Map.Entry<Integer, int[]> one : in.entrySet()) {
            int place = side == 0 ? one.getKey() : one.getValue()[0];
            if (one.getValue()[1] == middle && place / n == outer) return one.getKey();
        }
        return NONE;
    }

    private int refusal(int inlet, int outlet) {
        if (inlet < 0 || inlet >= r * n || outlet < 0 || outlet >= r * n) return UNKNOWN;
        for (Map.Entry<Integer, int[]> one : calls.entrySet()) {
            if (one.getKey() == inlet || one.getValue()[0] == outlet) return STATE;
        }
        return 0;
    }

    int call(int inlet, int outlet) {
        int refused = refusal(inlet, outlet);
        if (refused != 0) return refused;
        for (int a = 0; a < m; a++) {
            if (holder(calls, a, 0, inlet / n) == NONE && holder(calls, a, 1, outlet / n) == NONE) {
                calls.put(inlet, new int[] {outlet, a});
                return a;
            }
        }
        return NONE;
    }

    private static TreeMap<Integer, int[]> copy(TreeMap<Integer, int[]> from) {
        TreeMap<Integer, int[]> made = new TreeMap<>();
        for (Map.Entry<Integer, int[]> one : from.entrySet()) made.put(one.getKey(), one.getValue().clone());
        return made;
    }

    private static int unlike(TreeMap<Integer, int[]> one, TreeMap<Integer, int[]> other) {
        int found = 0;
        for (int inlet : one.keySet()) if (one.get(inlet)[1] != other.get(inlet)[1]) found++;
        return found;
    }

    private TreeMap<Integer, int[]> chained(TreeMap<Integer, int[]> from, int inlet, int outlet, int a, int b) {
        TreeMap<Integer, int[]> then = copy(from);
        int leavesA = holder(from, a, 1, outlet / n);
        while (leavesA != NONE) {
            then.get(leavesA)[1] = b;
            int leavesB = holder(from, b, 0, leavesA / n);
            leavesA = NONE;
            if (leavesB != NONE) {
                then.get(leavesB)[1] = a;
                leavesA = holder(from, a, 1, from.get(leavesB)[0] / n);
            }
        }
        then.put(inlet, new int[] {outlet, a});
        return then;
    }

    private TreeMap<Integer, int[]> mended(TreeMap<Integer, int[]> from, int inlet, int outlet) {
        TreeMap<Integer, int[]> best = null;
        for (int a = 0; a < m; a++) {
            for (int b = 0; b < m; b++) {
                if (holder(from, a, 0, inlet / n) != NONE || holder(from, b, 1, outlet / n) != NONE) continue;
                TreeMap<Integer, int[]> then = chained(from, inlet, outlet, a, b);
                if (best == null || unlike(from, then) < unlike(from, best)) best = then;
            }
        }
        return best;
    }

    int mend(int inlet, int outlet) {
        int refused = refusal(inlet, outlet);
        if (refused != 0) return refused;
        TreeMap<Integer, int[]> then = mended(calls, inlet, outlet);
        if (then == null) return NONE;
        int moved = unlike(calls, then);
        calls = then;
        return moved;
    }

    int moves(int inlet, int outlet) {
        TreeMap<Integer, int[]> now = calls;
        int answer = mend(inlet, outlet);
        calls = now;
        return answer;
    }

    int hang(int inlet) {
        if (inlet < 0 || inlet >= r * n) return UNKNOWN;
        int[] gone = calls.remove(inlet);
        return gone == null ? STATE : gone[1];
    }

    int anew() {
        TreeMap<Integer, int[]> then = new TreeMap<>();
        for (int inlet : calls.keySet()) {
            then = mended(then, inlet, calls.get(inlet)[0]);
            if (then == null) return STATE;
        }
        int changed = unlike(calls, then);
        calls = then;
        return changed;
    }

    int callOf(int inlet, int what) {
        if (inlet < 0 || inlet >= r * n) return UNKNOWN;
        if (what != 0 && what != 1) return OUTSIDE;
        return calls.containsKey(inlet) ? calls.get(inlet)[what] : NONE;
    }

    int links(int middle, int side) {
        if (middle < 0 || middle >= m) return UNKNOWN;
        if (side != 0 && side != 1) return OUTSIDE;
        int bits = 0;
        for (int outer = 0; outer < r; outer++) if (holder(calls, middle, side, outer) != NONE) bits += 1 << outer;
        return bits;
    }

    // ---- 2

    /** The K of the settings' net, by laying lines row by row. */
    private static int[] carriedBy(int k, int settings) {
        int width = 1 << k;
        if (k == 1) return settings == 0 ? new int[] {0, 1} : new int[] {1, 0};
        int innerMask = (1 << PAIRS[k - 1]) - 1;
        int[] one = carriedBy(k - 1, settings >> width & innerMask);
        int[] two = carriedBy(k - 1, settings >> width + PAIRS[k - 1] & innerMask);
        int[] carried = new int[width];
        for (int pair = 0; pair < width / 2; pair++) {
            boolean crossed = (settings >> pair & 1) == 1;
            int toOne = crossed ? 2 * pair + 1 : 2 * pair;
            int toTwo = crossed ? 2 * pair : 2 * pair + 1;
            boolean lastOfOne = (settings >> width / 2 + one[pair] & 1) == 1;
            boolean lastOfTwo = (settings >> width / 2 + two[pair] & 1) == 1;
            carried[toOne] = 2 * one[pair] + (lastOfOne ? 1 : 0);
            carried[toTwo] = 2 * two[pair] + (lastOfTwo ? 0 : 1);
        }
        return carried;
    }

    private static final Map<Integer, long[]>[] CARRIED = tables();

    @SuppressWarnings("unchecked")
    private static Map<Integer, long[]>[] tables() {
        return new Map[4];
    }

    private static int packed(int[] order) {
        int number = 0;
        for (int outlet : order) number = number * 8 + outlet;
        return number;
    }

    /** By order: how many settings carry it, the least of them. */
    private static Map<Integer, long[]> table(int k) {
        if (CARRIED[k] != null) return CARRIED[k];
        Map<Integer, long[]> table = new HashMap<>();
        for (int settings = 0; settings < 1 << PAIRS[k]; settings++) {
            int number = packed(carriedBy(k, settings));
            if (!table.containsKey(number)) table.put(number, new long[] {0, settings});
            table.get(number)[0]++;
        }
        CARRIED[k] = table;
        return table;
    }

    int order(int k, int sheet, int lane, int i) {
        fault = 0;
        if (sheet < 0 || sheet > 3) return UNKNOWN;
        if (lane < 0 || lane > 2 || k < 1 || k > 3) return OUTSIDE;
        int[] row = taken(sheet, lane, i, 1 << k);
        if (row == null) return -10 - fault;
        int[] sorted = row.clone();
        Arrays.sort(sorted);
        for (int x = 0; x < 1 << k; x++) if (sorted[x] != x) return OUTSIDE;
        this.k = k;
        order = row;
        return 1 << k;
    }

    private boolean noInlet(int x) {
        return x < 0 || x >= order.length;
    }

    int outlet(int x) {
        return noInlet(x) ? UNKNOWN : order[x];
    }

    long ways() {
        return table(k).get(packed(order))[0];
    }

    long first() {
        return table(k).get(packed(order))[1];
    }

    int carry(int k, long settings) {
        if (k < 1 || k > 3 || settings < 0 || settings >= 1L << PAIRS[k]) return OUTSIDE;
        this.k = k;
        order = carriedBy(k, (int) settings);
        return order.length;
    }

    int line(int x, int j) {
        if (noInlet(x) || j < 0 || j >= k) return UNKNOWN;
        int at = x;
        for (int row = 0; row <= j; row++) {
            at = at >= order.length / 2 ? 2 * at - (order.length - 1) : 2 * at;
            boolean odd = (order[x] & 1 << k - 1 - row) != 0;
            at = at / 2 * 2 + (odd ? 1 : 0);
        }
        return at;
    }

    int clash(int x, int y) {
        if (noInlet(x) || noInlet(y)) return UNKNOWN;
        if (x == y) return STATE;
        for (int row = 0; row < k; row++) if (line(x, row) == line(y, row)) return row;
        return NONE;
    }

    /** All partings are tried in their order; of those with the fewest sets the first is kept. */
    private int[] parting() {
        int[][] best = {null};
        tryParting(new int[order.length], 0, 0, best);
        return best[0];
    }

    private static int sets(int[] row) {
        int most = 0;
        for (int set : row) most = Math.max(most, set + 1);
        return most;
    }

    private void tryParting(int[] row, int x, int begun, int[][] best) {
        if (x == row.length) {
            if (best[0] == null || sets(row) < sets(best[0])) best[0] = row.clone();
            return;
        }
        for (int set = 0; set <= begun; set++) {
            boolean fits = true;
            for (int y = 0; y < x; y++) if (row[y] == set && clash(x, y) != NONE) fits = false;
            if (!fits) continue;
            row[x] = set;
            tryParting(row, x + 1, Math.max(begun, set + 1), best);
        }
    }

    int rounds() {
        return sets(parting());
    }

    int round(int x) {
        return noInlet(x) ? UNKNOWN : parting()[x];
    }

    // ---- 3

    int wires(int w) {
        if (w < 2 || w > 8) return OUTSIDE;
        this.w = w;
        int had = comparers.size();
        comparers.clear();
        return had;
    }

    int compare(int a, int b) {
        if (a < 0 || a >= w || b < 0 || b >= w) return UNKNOWN;
        if (a == b) return OUTSIDE;
        if (comparers.size() == 30) return FULL;
        comparers.add(new int[] {a, b});
        return comparers.size() - 1;
    }

    int back() {
        if (comparers.isEmpty()) return STATE;
        comparers.remove(comparers.size() - 1);
        return comparers.size();
    }

    private static boolean led(int[] row, int[] comparer) {
        if (row[comparer[0]] <= row[comparer[1]]) return false;
        int kept = row[comparer[0]];
        row[comparer[0]] = row[comparer[1]];
        row[comparer[1]] = kept;
        return true;
    }

    private int[] zerosAndOnes(int number) {
        int[] row = new int[w];
        for (int wire = 0; wire < w; wire++) row[wire] = number >> wire & 1;
        return row;
    }

    private boolean comesInOrder(int number) {
        int[] row = zerosAndOnes(number);
        for (int[] comparer : comparers) led(row, comparer);
        for (int wire = 1; wire < w; wire++) if (row[wire - 1] > row[wire]) return false;
        return true;
    }

    private boolean idle(int c) {
        for (int number = 0; number < 1 << w; number++) {
            int[] row = zerosAndOnes(number);
            for (int d = 0; d < c; d++) led(row, comparers.get(d));
            if (led(row, comparers.get(c))) return false;
        }
        return true;
    }

    /** A comparer's step is one beyond the greatest of those ahead of it that share a wire with it. */
    private int step(int c) {
        int[] steps = new int[c + 1];
        for (int d = 0; d <= c; d++) {
            for (int e = 0; e < d; e++) if (share(comparers.get(d), comparers.get(e))) steps[d] = Math.max(steps[d], steps[e] + 1);
        }
        return steps[c];
    }

    private static boolean share(int[] one, int[] other) {
        return one[0] == other[0] || one[0] == other[1] || one[1] == other[0] || one[1] == other[1];
    }

    int sorter(int what) {
        if (what < 0 || what > 5) return OUTSIDE;
        if (what == 0) return comparers.size();
        int depth = 0;
        int idle = 0;
        for (int c = 0; c < comparers.size(); c++) {
            depth = Math.max(depth, step(c) + 1);
            if (what == 5 && idle(c)) idle++;
        }
        if (what == 1) return depth;
        if (what == 5) return idle;
        int good = 0;
        int bad = NONE;
        for (int number = (1 << w) - 1; number >= 0; number--) {
            if (comesInOrder(number)) good++; else bad = number;
        }
        return what == 2 ? (bad == NONE ? 1 : 0) : what == 3 ? bad : good;
    }

    private int kind(int c) {
        int[] one = comparers.get(c);
        return one[0] > one[1] ? 2 : one[1] == one[0] + 1 ? 0 : 1;
    }

    private boolean noComparer(int c) {
        return c < 0 || c >= comparers.size();
    }

    int comparer(int c, int what) {
        if (noComparer(c)) return UNKNOWN;
        if (what < 0 || what > 4) return OUTSIDE;
        if (what < 2) return comparers.get(c)[what];
        return what == 2 ? step(c) : what == 3 ? (idle(c) ? 1 : 0) : kind(c);
    }

    int sort(int sheet, int lane, int i) {
        fault = 0;
        if (sheet < 0 || sheet > 3) return UNKNOWN;
        if (lane < 0 || lane > 2) return OUTSIDE;
        int[] row = taken(sheet, lane, i, w);
        if (row == null) return -10 - fault;
        int[] then = row.clone();
        for (int[] comparer : comparers) led(then, comparer);
        int changed = 0;
        for (int wire = 0; wire < w; wire++) {
            if (then[wire] != row[wire]) changed++;
            set(sheets[sheet], i + wire, then[wire]);
        }
        return changed;
    }

    // ---- 4

    int bar(int p) {
        if (p < 1 || p > 5) return OUTSIDE;
        int was = this.p;
        this.p = p;
        traffic = new int[5][5];
        rounds = null;
        queues = new int[5][5];
        pointIn = new int[5];
        pointOut = new int[5];
        latest = new int[] {NONE, NONE, NONE, NONE, NONE};
        return was;
    }

    private boolean noPort(int i) {
        return i < 0 || i >= p;
    }

    int traffic(int i, int o, int v) {
        if (noPort(i) || noPort(o)) return UNKNOWN;
        if (v < 0 || v > 50) return OUTSIDE;
        int was = traffic[i][o];
        traffic[i][o] = v;
        rounds = null;
        return was;
    }

    private static int sum(int[][] table, int line, boolean ofInlet) {
        int sum = 0;
        for (int other = 0; other < 5; other++) sum += ofInlet ? table[line][other] : table[other][line];
        return sum;
    }

    private static int span(int[][] table) {
        int most = 0;
        for (int i = 0; i < 5; i++) most = Math.max(most, Math.max(sum(table, i, true), sum(table, i, false)));
        return most;
    }

    int span() {
        return span(traffic);
    }

    /** Row by row in their order, none behind all outlets, with cells above 0 alone; the judge ends it or goes on. */
    private boolean tryRows(int[][] table, int[] row, int i, Judge judge) {
        if (i == p) return judge.takes(row);
        for (int o = 0; o < p; o++) {
            boolean free = table[i][o] > 0;
            for (int h = 0; h < i; h++) if (row[h] == o) free = false;
            if (!free) continue;
            row[i] = o;
            if (tryRows(table, row, i + 1, judge)) return true;
        }
        row[i] = NONE;
        return tryRows(table, row, i + 1, judge);
    }

    private interface Judge {
        boolean takes(int[] row);
    }

    private boolean servesAllFullLines(int[][] table, int[] row) {
        int span = span(table);
        for (int i = 0; i < p; i++) {
            if (sum(table, i, true) == span && row[i] == NONE) return false;
            boolean given = false;
            for (int h = 0; h < p; h++) if (row[h] == i) given = true;
            if (sum(table, i, false) == span && !given) return false;
        }
        return true;
    }

    private List<int[]> parted() {
        if (rounds != null) return rounds;
        rounds = new ArrayList<>();
        int[][] left = new int[5][];
        for (int i = 0; i < 5; i++) left[i] = traffic[i].clone();
        while (span(left) > 0) {
            int[] row = new int[p];
            tryRows(left, row, 0, one -> servesAllFullLines(left, one));
            for (int i = 0; i < p; i++) if (row[i] != NONE) left[i][row[i]]--;
            rounds.add(row);
        }
        return rounds;
    }

    int parted(int k, int i) {
        if (k < 0 || k >= span() || noPort(i)) return UNKNOWN;
        return parted().get(k)[i];
    }

    int changes() {
        int found = 0;
        for (int k = 0; k < parted().size(); k++) {
            if (k == 0 || !Arrays.equals(parted().get(k), parted().get(k - 1))) found++;
        }
        return found;
    }

    int slot(int rule, int sheet, int lane, int i) {
        fault = 0;
        if (sheet < 0 || sheet > 3) return UNKNOWN;
        if (lane < 0 || lane > 2 || rule < 0 || rule > 2) return OUTSIDE;
        int[] comes = taken(sheet, lane, i, p);
        if (comes == null) return -10 - fault;
        for (int o : comes) if (o < -1 || o >= p) return OUTSIDE;
        for (int h = 0; h < p; h++) if (comes[h] >= 0 && queues[h][comes[h]] == 1000) return FULL;
        for (int h = 0; h < p; h++) if (comes[h] >= 0) queues[h][comes[h]]++;
        int[] row = rule == 0 ? greatest() : rule == 1 ? byTurns() : crosswise();
        int served = 0;
        for (int h = 0; h < p; h++) {
            latest[h] = row[h];
            if (row[h] == NONE) continue;
            queues[h][row[h]]--;
            served++;
        }
        return served;
    }

    private int[] greatest() {
        int[][] best = {null};
        int[] most = {-1};
        tryRows(queues, new int[p], 0, row -> {
            int sum = 0;
            for (int i = 0; i < p; i++) if (row[i] != NONE) sum += queues[i][row[i]];
            if (sum > most[0]) {
                most[0] = sum;
                best[0] = row.clone();
            }
            return false;
        });
        return best[0];
    }

    private int[] byTurns() {
        int[] outletOf = {NONE, NONE, NONE, NONE, NONE};
        int[] inletOf = {NONE, NONE, NONE, NONE, NONE};
        for (int time = 0; time < 3; time++) {
            boolean[][] took = new boolean[5][5];
            for (int o = 0; o < p; o++) {
                for (int d = 0; d < p && inletOf[o] == NONE; d++) {
                    int i = (pointOut[o] + d) % p;
                    if (outletOf[i] == NONE && queues[i][o] > 0) {
                        took[o][i] = true;
                        break;
                    }
                }
            }
            for (int i = 0; i < p; i++) {
                for (int d = 0; d < p; d++) {
                    int o = (pointIn[i] + d) % p;
                    if (!took[o][i]) continue;
                    outletOf[i] = o;
                    inletOf[o] = i;
                    break;
                }
            }
            for (int i = 0; i < p && time == 0; i++) {
                if (outletOf[i] == NONE) continue;
                pointIn[i] = (outletOf[i] + 1) % p;
                pointOut[outletOf[i]] = (i + 1) % p;
            }
        }
        return outletOf;
    }

    private int[] crosswise() {
        int[] outletOf = {NONE, NONE, NONE, NONE, NONE};
        boolean[] given = new boolean[5];
        for (int d = 0; d < p; d++) {
            for (int i = 0; i < p; i++) {
                int o = (i + d) % p;
                if (outletOf[i] != NONE || given[o] || queues[i][o] == 0) continue;
                outletOf[i] = o;
                given[o] = true;
            }
        }
        return outletOf;
    }

    int queue(int i, int o, int what) {
        if (what < 0 || what > 3) return OUTSIDE;
        if (noPort(i) || what == 0 && noPort(o)) return UNKNOWN;
        return what == 0 ? queues[i][o] : what == 1 ? latest[i] : what == 2 ? pointIn[i] : pointOut[i];
    }

    int waiting() {
        int all = 0;
        for (int i = 0; i < 5; i++) all += sum(queues, i, true);
        return all;
    }

    long lost(int p, int q, int which) {
        if (q < 1 || q > 20 || p < 0 || p > q || which < 0 || which > 1) return Long.MIN_VALUE;
        long upper = 1;
        long lower = 1;
        for (int a = 0; a < m; a++) {
            upper *= (long) q * q - (long) (q - p) * (q - p);
            lower *= (long) q * q;
        }
        java.math.BigInteger common = java.math.BigInteger.valueOf(upper).gcd(java.math.BigInteger.valueOf(lower));
        return (which == 0 ? upper : lower) / common.longValue();
    }

    // ---- sheets, parts

    private static int length(Object row) {
        return java.lang.reflect.Array.getLength(row);
    }

    private static int get(Object row, int i) {
        return java.lang.reflect.Array.getInt(row, i);
    }

    private static void set(Object row, int i, int v) {
        if (row instanceof byte[] bytes) bytes[i] = (byte) v;
        if (row instanceof short[] shorts) shorts[i] = (short) v;
        if (row instanceof int[] ints) ints[i] = v;
    }

    private static int laneOf(Object row) {
        return row instanceof byte[] ? 0 : row instanceof short[] ? 1 : 2;
    }

    /** Null, if there is a fault, which is left in fault. */
    private int[] taken(int sheet, int lane, int i, int many) {
        Object row = sheets[sheet];
        fault = row != null && laneOf(row) != lane ? 2 : row == null ? 1 : i < 0 || (long) i + many > length(row) ? 3 : 0;
        if (fault != 0) return null;
        int[] cells = new int[many];
        for (int place = 0; place < many; place++) cells[place] = get(row, i + place);
        return cells;
    }

    int sheet(int k, int lane, int n) {
        fault = 0;
        if (k < 0 || k > 3) return UNKNOWN;
        if (lane < 0 || lane > 2 || n > 60) return OUTSIDE;
        if (n < 0) {
            fault = 4;
            return -14;
        }
        sheets[k] = lane == 0 ? new byte[n] : lane == 1 ? new short[n] : new int[n];
        return 1;
    }

    int lose(int k) {
        if (k < 0 || k > 3) return UNKNOWN;
        int had = sheets[k] == null ? 0 : 1;
        sheets[k] = null;
        return had;
    }

    int put(int k, int i, int v) {
        fault = 0;
        if (k < 0 || k > 3) return UNKNOWN;
        fault = sheets[k] == null ? 1 : i < 0 || i >= length(sheets[k]) ? 3 : 0;
        if (fault != 0) return -10 - fault;
        set(sheets[k], i, v);
        return 1;
    }

    long cell(int k, int i, int lane) {
        fault = 0;
        if (k < 0 || k > 3 || lane < 0 || lane > 2) return Long.MIN_VALUE;
        int[] one = taken(k, lane, i, 1);
        return one == null ? Long.MIN_VALUE : one[0];
    }

    private void trace(int body) {
        trace = trace * 31 + body;
    }

    int tell(int c) {
        if (noComparer(c)) return UNKNOWN;
        int a = comparers.get(c)[0];
        int b = comparers.get(c)[1];
        int[][] bodies = {{1}, {2, 1}, {3, 2, 1, 1}};
        for (int body : bodies[kind(c)]) trace(body);
        return kind(c) == 0 ? a : kind(c) == 1 ? a + b : a + b + a;
    }

    int show(int c) {
        if (noComparer(c)) return UNKNOWN;
        trace(kind(c) == 2 ? 5 : 4);
        return kind(c) == 2 ? 30 : c;
    }

    int as(int c, int kind) {
        fault = 0;
        if (noComparer(c)) return UNKNOWN;
        if (kind < 0 || kind > 2) return OUTSIDE;
        if (kind <= kind(c)) return 1;
        fault = 2;
        return -12;
    }

    int trace() {
        return trace;
    }

    int fault() {
        return fault;
    }

    int many(int what) {
        int[] all = {calls.size(), comparers.size(), w, p, k};
        return what < 0 || what > 4 ? OUTSIDE : all[what];
    }
}
