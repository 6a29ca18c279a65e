import java.lang.reflect.Method;
import java.util.HashMap;
import java.util.Map;
import java.util.Random;

/** Runs of calls, drawn from fixed seeds, on the class and on the slow model: each answer is held against the other. */
public final class RandomRunsTest {
    private static final int RUNS = 300, MOST_CALLS = 512;
    private static final int[] FAR = {Integer.MIN_VALUE, Integer.MAX_VALUE, -1, -2, 100, 1 << 20};
    private static final Map<String, Method> FAST = byName(CallStages.class);
    private static final Map<String, Method> SLOW = byName(SlowStages.class);
    private static final Due DUE = new Due("RandomRunsTest");

    private final CallStages fast = new CallStages();
    private final SlowStages slow = new SlowStages();
    private final String theme;
    private final int seed;
    private final Random random;
    private final boolean wild;
    private int calls = 0;
    /** Whether the document tells whom the latest slot matched: not so, once bar() was called behind it. */
    private boolean matchIsTold = true;

    private RandomRunsTest(String theme, int seed) {
        this.theme = theme;
        this.seed = seed;
        this.random = new Random(seed * 1000003L + theme.hashCode());
        this.wild = seed % 3 == 0;
    }

    public static void main(String[] args) throws Exception {
        for (String theme : new String[] {"stages", "crossed", "comparers", "traffic", "queues", "sheets", "all"}) {
            for (int seed = 1; seed <= RUNS && !DUE.anyWrong(); seed++) new RandomRunsTest(theme, seed).run();
        }
        DUE.end();
    }

    private static Map<String, Method> byName(Class<?> of) {
        Map<String, Method> found = new HashMap<>();
        for (Method one : of.getDeclaredMethods()) {
            boolean inFace = true;
            try {
                CallStages.class.getMethod(one.getName(), one.getParameterTypes());
            } catch (NoSuchMethodException none) {
                inFace = false;
            }
            if (!inFace) continue;
            one.setAccessible(true);
            found.put(one.getName(), one);
        }
        return found;
    }

    private void run() throws Exception {
        while (calls < MOST_CALLS && !DUE.anyWrong()) {
            switch (theme) {
                case "stages": stages(); break;
                case "crossed": crossed(); break;
                case "comparers": comparers(); break;
                case "traffic": traffic(); break;
                case "queues": queues(); break;
                case "sheets": sheets(); break;
                default: any(); break;
            }
        }
    }

    private void any() throws Exception {
        switch (random.nextInt(6)) {
            case 0: stages(); break;
            case 1: crossed(); break;
            case 2: comparers(); break;
            case 3: traffic(); break;
            case 4: queues(); break;
            default: sheets(); break;
        }
    }

    private long ask(String name, Number... args) throws Exception {
        if (calls >= MOST_CALLS) return 0;
        calls++;
        StringBuilder call = new StringBuilder(theme).append(", seed ").append(seed).append(", call ").append(calls)
            .append(": ").append(name).append('(');
        for (int i = 0; i < args.length; i++) call.append(i == 0 ? "" : ", ").append(args[i]);
        long got = ((Number) FAST.get(name).invoke(fast, (Object[]) args)).longValue();
        long want = ((Number) SLOW.get(name).invoke(slow, (Object[]) args)).longValue();
        DUE.due(call.append(')').toString(), got, want);
        return got;
    }

    private boolean chance(int oneOf) {
        return random.nextInt(oneOf) == 0;
    }

    /** Mostly least .. most; at times beside it. */
    private int near(int least, int most) {
        if (chance(wild ? 8 : 40)) {
            int which = random.nextInt(FAR.length + 2);
            return which == 0 ? least - 1 : which == 1 ? most + 1 : FAR[which - 2];
        }
        return least + random.nextInt(Math.max(1, most - least + 1));
    }

    private int place() {
        return near(0, slow.netOf(0) * slow.netOf(1) - 1);
    }

    private void stages() throws Exception {
        switch (random.nextInt(theme.equals("stages") ? 14 : 18)) {
            case 0: case 1: case 2: ask("call", place(), place()); break;
            case 3: case 4: case 5: case 6: ask("mend", place(), place()); break;
            case 7: ask("moves", place(), place()); break;
            case 8: ask("hang", place()); break;
            case 9: ask("callOf", place(), near(0, 1)); break;
            case 10: ask("links", near(0, slow.netOf(2) - 1), near(0, 1)); break;
            case 11: ask("netOf", near(0, 5)); break;
            case 12: if (chance(4)) ask("anew"); else ask("lost", near(0, 20), near(1, 20), near(0, 1)); break;
            case 13: if (chance(12)) newNet(); else fillNet(); break;
            default: ask("many", near(0, 4)); break;
        }
    }

    private void newNet() throws Exception {
        int n = near(1, 4);
        ask("net", near(1, 5), n, chance(2) ? n : near(1, 7));
    }

    /** A full net, by a drawn order, has the longest chains. */
    private void fillNet() throws Exception {
        if (!chance(4)) return;
        int[] order = shuffled(slow.netOf(0) * slow.netOf(1));
        for (int inlet = 0; inlet < order.length; inlet++) {
            int at = (inlet * 7 + seed) % order.length;
            ask(chance(3) ? "call" : "mend", at, order[at]);
        }
        for (int inlet = 0; inlet < order.length; inlet++) ask("callOf", inlet, 1);
        if (chance(2)) ask("anew");
        for (int middle = 0; middle < slow.netOf(2); middle++) ask("links", middle, near(0, 1));
        for (int gone = 0; gone < 6; gone++) ask("hang", place());
    }

    private int[] shuffled(int length) {
        int[] row = new int[length];
        for (int i = 0; i < length; i++) {
            int at = random.nextInt(i + 1);
            row[i] = row[at];
            row[at] = i;
        }
        return row;
    }

    private void crossed() throws Exception {
        int most = (1 << slow.many(4)) - 1;
        switch (random.nextInt(12)) {
            case 0: newOrder(); break;
            case 1: ask("carry", near(1, 3), random.nextLong() >>> 44 + random.nextInt(20)); break;
            case 2: ask("carry", near(1, 3), wild ? random.nextLong() : (long) random.nextInt(64)); break;
            case 3: ask("outlet", near(0, most)); break;
            case 4: ask("ways"); break;
            case 5: case 6: ask("first"); break;
            case 7: case 8: ask("line", near(0, most), near(0, slow.many(4) - 1)); break;
            case 9: ask("clash", near(0, most), near(0, most)); break;
            case 10: ask("rounds"); break;
            default: ask("round", near(0, most)); break;
        }
    }

    private void newOrder() throws Exception {
        int k = near(1, 3);
        int[] order = shuffled(k < 1 || k > 3 ? 4 : 1 << k);
        if (chance(8)) order[0] = near(0, order.length - 1);
        int sheet = random.nextInt(4);
        int lane = random.nextInt(3);
        int from = random.nextInt(3);
        ask("sheet", sheet, lane, from + order.length + random.nextInt(2));
        for (int x = 0; x < order.length; x++) ask("put", sheet, from + x, order[x]);
        ask("order", k, sheet, chance(10) ? near(0, 2) : lane, from + (chance(10) ? near(-1, 1) : 0));
        if (chance(4)) ask("fault");
    }

    private void comparers() throws Exception {
        int most = slow.many(2) - 1;
        int latest = slow.many(1) - 1;
        switch (random.nextInt(18)) {
            case 0: if (chance(10)) ask("wires", near(2, 8)); break;
            case 1: if (chance(2)) ask("back"); break;
            case 2: case 3: case 4: ask("compare", near(0, most), near(0, most)); break;
            case 5: compareUpwards(most); break;
            case 6: case 7: ask("sorter", near(0, 5)); break;
            case 8: case 9: ask("comparer", near(0, latest), near(0, 4)); break;
            case 10: ask("tell", near(0, latest)); break;
            case 11: ask("show", near(0, latest)); break;
            case 12: ask("as", near(0, latest), near(0, 2)); break;
            case 13: ask("trace"); break;
            case 14: ask("fault"); break;
            case 15: if (chance(8)) compareAll(most); break;
            default: sortRow(); break;
        }
    }

    private void compareUpwards(int most) throws Exception {
        int a = random.nextInt(most);
        ask("compare", a, a + 1 + random.nextInt(most - a));
    }

    /** Neighbours again and again: it sorts in the end, if there is room for all. */
    private void compareAll(int most) throws Exception {
        if (chance(2)) ask("wires", near(2, 8));
        int top = slow.many(2) - 1;
        for (int last = top; last > 0; last--) {
            for (int a = 0; a < last; a++) ask("compare", a, a + 1);
            for (int what = 1; what < 6; what++) ask("sorter", what);
        }
    }

    private void sortRow() throws Exception {
        int sheet = near(0, 3);
        int lane = near(0, 2);
        if (chance(3)) {
            int from = random.nextInt(2);
            ask("sheet", sheet, lane, from + slow.many(2) + random.nextInt(2));
            for (int i = 0; i <= slow.many(2); i++) ask("put", sheet, i, random.nextInt() >> random.nextInt(32));
            ask("sort", sheet, lane, from);
            for (int i = 0; i <= slow.many(2); i++) ask("cell", sheet, i, lane);
        } else {
            ask("sort", sheet, lane, near(0, 2));
            ask("fault");
        }
    }

    private int port() {
        return near(0, slow.many(3) - 1);
    }

    private void traffic() throws Exception {
        switch (random.nextInt(10)) {
            case 0: if (chance(6)) newBar(); break;
            case 1: case 2: case 3: ask("traffic", port(), port(), near(0, chance(4) ? 50 : 4)); break;
            case 4: if (chance(4)) fillTraffic(); break;
            case 5: ask("span"); break;
            case 6: ask("changes"); break;
            default: ask("parted", near(0, slow.span() - 1), port()); break;
        }
    }

    private void newBar() throws Exception {
        if (ask("bar", near(1, 5)) > 0) matchIsTold = false;
    }

    private void fillTraffic() throws Exception {
        int most = chance(3) ? 50 : 3;
        for (int i = 0; i < slow.many(3); i++) {
            for (int o = 0; o < slow.many(3); o++) {
                ask("traffic", i, o, chance(3) ? 0 : random.nextInt(most + 1));
            }
        }
        ask("changes");
        int span = slow.span();
        for (int k = 0; k < span && k < 12; k++) {
            int round = span <= 12 ? k : random.nextInt(span);
            for (int i = 0; i < slow.many(3); i++) ask("parted", round, i);
        }
    }

    private void queues() throws Exception {
        switch (random.nextInt(10)) {
            case 0: if (chance(12)) newBar(); break;
            case 1: case 2: case 3: case 4: comeAndServe(); break;
            case 5: ask("waiting"); break;
            case 6: askSlot(near(0, 3), near(0, 2), near(0, 3)); break;
            default: askQueue(port(), port(), near(0, 3)); break;
        }
    }

    private void askSlot(int sheet, int lane, int from) throws Exception {
        if (ask("slot", near(0, 2), sheet, lane, from) >= 0) matchIsTold = true;
    }

    private void askQueue(int i, int o, int what) throws Exception {
        if (what != 1 || matchIsTold) ask("queue", i, o, what);
    }

    private void comeAndServe() throws Exception {
        int sheet = random.nextInt(4);
        int lane = random.nextInt(3);
        int from = random.nextInt(3);
        int ports = slow.many(3);
        ask("sheet", sheet, lane, from + ports);
        for (int i = 0; i < ports; i++) ask("put", sheet, from + i, chance(6) ? -1 : port());
        boolean crowded = chance(2);
        for (int again = 0; again < (crowded ? 4 : 1); again++) askSlot(sheet, lane, from);
        for (int i = 0; i < ports; i++) askQueue(i, 0, 1 + random.nextInt(3));
    }

    private void sheets() throws Exception {
        switch (random.nextInt(8)) {
            case 0: ask("sheet", near(0, 3), near(0, 2), chance(6) ? near(-1, 60) : random.nextInt(12)); break;
            case 1: ask("lose", near(0, 3)); break;
            case 2: case 3: ask("put", near(0, 3), near(0, 11), random.nextInt() >> random.nextInt(32)); break;
            case 4: case 5: ask("cell", near(0, 3), near(0, 11), near(0, 2)); break;
            case 6: ask("many", near(0, 4)); break;
            default: ask("fault"); break;
        }
    }
}
