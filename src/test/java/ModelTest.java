import java.util.ArrayList;
import java.util.Arrays;
import java.util.Comparator;
import java.util.List;
import java.util.Random;

/**
 * Long mixed runs against a second, slow telling of the document: lists that are sorted anew for every question.
 * The seeds are fixed, so each run is the same every time.
 */
public final class ModelTest {
    private static final int CALLS = 512;
    private static final int RUNS = 1500;
    private static final long THROWN = Long.MIN_VALUE + 77;
    private static final int[] ODD_NUMBERS = {
        -1, -2, 24, 25, 159, 160, 161, Integer.MIN_VALUE, Integer.MAX_VALUE, Integer.MAX_VALUE - 1
    };

    private static final class Arc {
        final int from;
        final int to;
        boolean built;
        boolean taken;
        boolean gone;

        Arc(int from, int to, boolean built) {
            this.from = from;
            this.to = to;
            this.built = built;
        }

        boolean live() {
            return !taken && !gone;
        }
    }

    private static final class Walk {
        int node;
        boolean ofIn;
        boolean stale;
        final List<Arc> told = new ArrayList<>();
    }

    private static final class Model {
        final int n;
        List<Arc> arcs = new ArrayList<>();
        List<Integer> turn = null;
        final Walk[] walks = new Walk[8];
        final int[] givenOffsets = new int[25];
        final int[] givenTargets = new int[160];

        Model(int n) {
            this.n = n < 1 ? 1 : n > 24 ? 24 : n;
        }

        boolean node(int v) {
            return 0 <= v && v < n;
        }

        boolean known(int arc) {
            return 0 <= arc && arc < arcs.size();
        }

        /** The row of a node, sorted anew; the list of all arcs is in number order and the sort is stable. */
        List<Arc> row(int node, boolean ofIn) {
            List<Arc> row = new ArrayList<>();
            for (Arc a : arcs) {
                if (a.built && (ofIn ? a.to : a.from) == node) {
                    row.add(a);
                }
            }
            row.sort(Comparator.comparingInt(a -> ofIn ? a.from : a.to));
            return row;
        }

        List<Arc> standing(int node, boolean ofIn) {
            List<Arc> order = row(node, ofIn);
            for (Arc a : arcs) {
                if (!a.built && !a.gone && (ofIn ? a.to : a.from) == node) {
                    order.add(a);
                }
            }
            return order;
        }

        List<Arc> live(int node, boolean ofIn) {
            List<Arc> order = standing(node, ofIn);
            order.removeIf(a -> !a.live());
            return order;
        }

        void stale() {
            for (Walk w : walks) {
                if (w != null) {
                    w.stale = true;
                }
            }
        }

        int merge() {
            int changed = 0;
            for (Arc a : arcs) {
                if (a.gone) {
                    continue;
                }
                if (a.taken) {
                    a.gone = true;
                    a.built = false;
                    changed++;
                } else if (!a.built) {
                    a.built = true;
                    changed++;
                }
            }
            stale();
            return changed;
        }

        int pack() {
            merge();
            turn = new ArrayList<>();
            List<Arc> kept = new ArrayList<>();
            for (Arc a : arcs) {
                turn.add(a.gone ? -1 : kept.size());
                if (!a.gone) {
                    kept.add(a);
                }
            }
            arcs = kept;
            return kept.size();
        }

        int mark(int arc, boolean taken) {
            if (!known(arc)) {
                return -2;
            }
            Arc a = arcs.get(arc);
            if (a.gone) {
                return -5;
            }
            boolean was = a.taken;
            a.taken = taken;
            return was == taken ? 0 : 1;
        }

        long inRow(int node, boolean ofIn, int k) {
            if (!node(node)) {
                return THROWN;
            }
            List<Arc> row = row(node, ofIn);
            return k < 0 || k >= row.size() ? THROWN : arcs.indexOf(row.get(k));
        }

        int offset(int node, boolean ofIn) {
            if (node < 0 || node > n) {
                return -2;
            }
            int sum = 0;
            for (int v = 0; v < node; v++) {
                sum += row(v, ofIn).size();
            }
            return sum;
        }

        int told(int arc, int what) {
            if (!known(arc)) {
                return -2;
            }
            Arc a = arcs.get(arc);
            int[] answers = {a.from, a.to, a.built ? 1 : 0, a.taken ? 1 : 0, a.gone ? 1 : 0};
            return what < 0 || what > 4 ? -3 : answers[what];
        }

        long[][] matrix() {
            long[][] m = new long[n][n];
            for (Arc a : arcs) {
                if (a.live()) {
                    m[a.from][a.to]++;
                }
            }
            return m;
        }

        int near(int from, int to) {
            if (!node(from) || !node(to)) {
                return -2;
            }
            long[][] m = matrix();
            int[][] d = new int[n][n];
            for (int i = 0; i < n; i++) {
                for (int j = 0; j < n; j++) {
                    d[i][j] = i == j ? 0 : m[i][j] > 0 ? 1 : 1000;
                }
            }
            for (int k = 0; k < n; k++) {
                for (int i = 0; i < n; i++) {
                    for (int j = 0; j < n; j++) {
                        d[i][j] = Math.min(d[i][j], d[i][k] + d[k][j]);
                    }
                }
            }
            return d[from][to] >= 1000 ? -1 : d[from][to];
        }

        long ways(int from, int to, int steps) {
            if (!node(from) || !node(to)) {
                return -2;
            }
            if (steps < 0 || steps > 60) {
                return -3;
            }
            long[][] m = matrix();
            // Counted backwards from the end, unlike the program, which counts forwards.
            long[] rest = new long[n];
            rest[to] = 1;
            for (int s = 0; s < steps; s++) {
                long[] longer = new long[n];
                for (int i = 0; i < n; i++) {
                    for (int j = 0; j < n; j++) {
                        longer[i] += m[i][j] * rest[j];
                    }
                }
                rest = longer;
            }
            return rest[from];
        }

        int open(int node, boolean ofIn) {
            if (!node(node)) {
                return -2;
            }
            for (int i = 0; i < 8; i++) {
                if (walks[i] == null) {
                    walks[i] = new Walk();
                    walks[i].node = node;
                    walks[i].ofIn = ofIn;
                    return i;
                }
            }
            return -6;
        }

        Walk walk(int i) {
            return i < 0 || i >= 8 ? null : walks[i];
        }

        int next(int i) {
            Walk w = walk(i);
            if (w == null) {
                return -2;
            }
            if (w.stale) {
                return -4;
            }
            List<Arc> order = standing(w.node, w.ofIn);
            int behind = w.told.isEmpty() ? 0 : order.indexOf(w.told.get(w.told.size() - 1)) + 1;
            for (Arc a : order.subList(behind, order.size())) {
                if (a.live()) {
                    w.told.add(a);
                    return arcs.indexOf(a);
                }
            }
            return -1;
        }

        int close(int i) {
            Walk w = walk(i);
            if (w == null) {
                return -2;
            }
            walks[i] = null;
            return w.told.size();
        }

        int give(boolean targets, int k, int v) {
            int[] row = targets ? givenTargets : givenOffsets;
            if (k < 0 || k > (targets ? 159 : 24)) {
                return -3;
            }
            int was = row[k];
            row[k] = v;
            return was;
        }

        int load(int m) {
            if (m < 0 || m > 160) {
                return -3;
            }
            for (int k = 0; k <= n; k++) {
                int v = givenOffsets[k];
                if (k == 0 && v != 0 || k > 0 && v < givenOffsets[k - 1] || v > m || k == n && v != m) {
                    return 1 + k;
                }
            }
            for (int k = 0; k < m; k++) {
                if (!node(givenTargets[k])) {
                    return 100 + k;
                }
            }
            arcs = new ArrayList<>();
            for (int k = 0; k < m; k++) {
                int from = 0;
                while (givenOffsets[from + 1] <= k) {
                    from++;
                }
                arcs.add(new Arc(from, givenTargets[k], true));
            }
            turn = null;
            stale();
            return 0;
        }

        int about(int what) {
            int built = 0;
            int waits = 0;
            int live = 0;
            int open = 0;
            for (Arc a : arcs) {
                built += a.built ? 1 : 0;
                waits += !a.built && !a.gone ? 1 : 0;
                live += a.live() ? 1 : 0;
            }
            for (Walk w : walks) {
                open += w == null ? 0 : 1;
            }
            int[] answers = {n, arcs.size(), built, waits, live, open};
            return what < 0 || what > 5 ? -3 : answers[what];
        }
    }

    /** A call of the face by its place there, with three numbers for whatever arguments it takes. */
    private static long askModel(Model m, int call, int a, int b, int c) {
        boolean flag = (call & 1) == 1;
        switch (call / 2) {
            case 0: return !m.node(a) || !m.node(b) ? -2 : m.arcs.size() >= 160 ? -6 : addTo(m, a, b);
            case 1: return m.mark(a, true);
            case 2: return m.mark(a, false);
            case 3: return m.merge();
            case 4: return m.pack();
            case 5: return m.turn == null || a < 0 || a >= m.turn.size() ? -2 : m.turn.get(a);
            case 6: return m.inRow(a, false, b);
            case 7: return m.inRow(a, true, b);
            case 8: return m.offset(a, flag);
            case 9: return m.told(a, b);
            case 10: return !m.node(a) ? -2 : m.live(a, flag).size();
            case 11: return liveOf(m, a, flag, b);
            case 12: return !m.node(a) || !m.node(b) ? -2 : betweenOf(m, a, b);
            case 13: return m.near(a, b);
            case 14: return m.ways(a, b, c);
            case 15: return m.open(a, flag);
            case 16: return m.next(a);
            case 17: return m.close(a);
            case 18: return m.give(flag, a, b);
            case 19: return m.load(a);
            default: return m.about(a);
        }
    }

    private static int addTo(Model m, int from, int to) {
        m.arcs.add(new Arc(from, to, false));
        return m.arcs.size() - 1;
    }

    private static int liveOf(Model m, int node, boolean ofIn, int k) {
        if (!m.node(node)) {
            return -2;
        }
        if (k < 0) {
            return -3;
        }
        List<Arc> live = m.live(node, ofIn);
        return k >= live.size() ? -1 : m.arcs.indexOf(live.get(k));
    }

    private static int betweenOf(Model m, int from, int to) {
        return (int) m.matrix()[from][to];
    }

    private static long askProgram(OffsetRows x, int call, int a, int b, int c) {
        boolean flag = (call & 1) == 1;
        try {
            switch (call / 2) {
                case 0: return x.arc(a, b);
                case 1: return x.take(a);
                case 2: return x.untake(a);
                case 3: return x.merge();
                case 4: return x.pack();
                case 5: return x.turned(a);
                case 6: return x.out(a, b);
                case 7: return x.in(a, b);
                case 8: return x.offset(a, flag);
                case 9: return x.told(a, b);
                case 10: return x.degree(a, flag);
                case 11: return x.live(a, flag, b);
                case 12: return x.between(a, b);
                case 13: return x.near(a, b);
                case 14: return x.ways(a, b, c);
                case 15: return x.open(a, flag);
                case 16: return x.next(a);
                case 17: return x.close(a);
                case 18: return x.give(flag, a, b);
                case 19: return x.load(a);
                default: return x.about(a);
            }
        } catch (IndexOutOfBoundsException e) {
            // The machine's own exceptions are classes below this one, and none of them may get out.
            return e.getClass() == IndexOutOfBoundsException.class ? THROWN : THROWN + 1;
        }
    }

    private static final String[] NAMES = {
        "arc", "take", "untake", "merge", "pack", "turned", "out", "in", "offset", "told", "degree", "live", "between",
        "near", "ways", "open", "next", "close", "give", "load", "about"
    };

    /** How often each call comes, in the order of NAMES: runs that grow, that walk, and that load. */
    private static final int[][] WEIGHTS = {
        {30, 10, 4, 2, 1, 3, 5, 5, 4, 5, 4, 6, 2, 2, 2, 4, 12, 3, 0, 0, 3},
        {12, 10, 8, 1, 0, 1, 3, 3, 1, 2, 2, 6, 1, 1, 1, 8, 40, 4, 0, 0, 2},
        {60, 3, 1, 1, 1, 2, 2, 2, 2, 2, 2, 4, 1, 1, 1, 2, 4, 1, 1, 1, 2},
        {8, 5, 2, 1, 1, 3, 8, 8, 4, 5, 3, 6, 2, 2, 2, 3, 6, 1, 8, 12, 3},
    };

    private static int pick(Random random, int[] weights) {
        int left = random.nextInt(Arrays.stream(weights).sum());
        int call = 0;
        while (left >= weights[call]) {
            left -= weights[call];
            call++;
        }
        return call;
    }

    private static int number(Random random, int bound) {
        if (random.nextInt(25) == 0) {
            return ODD_NUMBERS[random.nextInt(ODD_NUMBERS.length)];
        }
        return random.nextInt(bound + 1) - (random.nextInt(20) == 0 ? 1 : 0);
    }

    private static int firstBound(Model m, int call) {
        switch (NAMES[call]) {
            case "take": case "untake": case "told": return m.arcs.size();
            case "turned": return m.turn == null ? 3 : m.turn.size() + 1;
            case "next": case "close": return m.walk(7) == null && m.walk(2) == null ? 3 : 9;
            case "give": return 25;
            case "load": return 160;
            case "about": return 6;
            default: return m.n - (m.n > 1 ? 1 : 0);
        }
    }

    private static int secondBound(Model m, int call) {
        switch (NAMES[call]) {
            case "out": case "in": case "live": return 1 + m.arcs.size() / m.n;
            case "told": return 5;
            case "give": return 30;
            default: return m.n - (m.n > 1 ? 1 : 0);
        }
    }

    private static int wrong = 0;

    private static final class Pair {
        final long seed;
        final OffsetRows program;
        final Model model;
        int calls = 0;

        Pair(long seed, int n) {
            this.seed = seed;
            program = new OffsetRows(n);
            model = new Model(n);
        }

        boolean same(int call, int a, int b, int c) {
            calls++;
            long got = askProgram(program, call, a, b, c);
            long want = askModel(model, call, a, b, c);
            if (got != want) {
                wrong++;
                System.out.println("seed " + seed + ", call " + calls + ": " + NAMES[call / 2] + " with " + a + ", " + b
                    + ", " + c + " (flag " + ((call & 1) == 1) + ") answered " + got + ", due is " + want);
            }
            return got == want;
        }
    }

    /** Gives rows without a fault, then spoils one place at times: chance alone would hardly ever load. */
    private static boolean giveAndLoad(Pair pair, Random random) {
        int n = pair.model.n;
        int m = random.nextInt(60);
        int[] offsets = new int[n + 1];
        for (int k = 1; k < n; k++) {
            offsets[k] = random.nextInt(m + 1);
        }
        offsets[n] = m;
        Arrays.sort(offsets);
        boolean same = true;
        for (int k = 0; k <= n && same; k++) {
            same = pair.same(36, k, offsets[k], 0);
        }
        for (int k = 0; k < m && same; k++) {
            same = pair.same(37, k, random.nextInt(n), 0);
        }
        if (random.nextInt(3) == 0) {
            same = same && pair.same(36 + random.nextInt(2), random.nextInt(Math.max(n, m)), number(random, m), 0);
        }
        return same && pair.same(38, m, 0, 0);
    }

    private static void run(long seed) {
        Random random = new Random(seed);
        int[] weights = WEIGHTS[(int) (seed % WEIGHTS.length)];
        Pair pair = new Pair(seed, random.nextInt(4) == 0 ? random.nextInt(30) - 2 : 1 + random.nextInt(5));
        boolean same = true;
        while (same && pair.calls < CALLS - 90) {
            int name = pick(random, weights);
            if (NAMES[name].equals("load") && random.nextInt(8) == 0) {
                same = giveAndLoad(pair, random);
                continue;
            }
            int a = number(random, firstBound(pair.model, name));
            int b = number(random, secondBound(pair.model, name));
            same = pair.same(2 * name + random.nextInt(2), a, b, number(random, 61));
        }
        for (int arc = 0; same && pair.calls < CALLS; arc++) {
            same = pair.same(18, arc % 40, arc / 40, 0);
        }
    }

    public static void main(String[] args) {
        for (long seed = 0; seed < RUNS && wrong < 20; seed++) {
            run(seed);
        }
        System.out.println(wrong == 0 ? RUNS + " runs agree with the model" : wrong + " runs do not agree");
        if (wrong != 0) {
            System.exit(1);
        }
    }
}
