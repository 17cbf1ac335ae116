import java.util.Arrays;

/** Arcs of a graph as offsets and targets, both ways. */
public final class OffsetRows {
    public static final int NONE = -1, UNKNOWN = -2, OUTSIDE = -3, STALE = -4, GONE = -5, ROOM = -6;

    private static final int MOST_NODES = 24;
    private static final int MOST_ARCS = 160;
    private static final int MOST_ITERATORS = 8;
    private static final int LONGEST_WAY = 60;

    private static final int NO_FAULT = 0;
    private static final int OFFSET_FAULT = 1;
    private static final int TARGET_FAULT = 100;

    private final int nodes;
    private final ArcList arcs;
    private final Side outSide;
    private final Side inSide;
    private final Iterators iterators;
    private final Given given;
    private final int[] turnRow;
    private int turnedNumbers;
    private final int[] steps;
    private final long[] waysHere;
    private final long[] waysOnward;

    public OffsetRows(int n) {
        nodes = Math.max(1, Math.min(MOST_NODES, n));
        arcs = new ArcList();
        outSide = new Side(nodes, arcs, arcs.from, arcs.to);
        inSide = new Side(nodes, arcs, arcs.to, arcs.from);
        iterators = new Iterators();
        given = new Given();
        turnRow = new int[MOST_ARCS];
        turnedNumbers = 0;
        steps = new int[nodes];
        waysHere = new long[nodes];
        waysOnward = new long[nodes];
    }

    public int arc(int from, int to) {
        if (!isNode(from) || !isNode(to)) {
            return UNKNOWN;
        }
        return arcs.append(from, to, ArcList.WAITS);
    }

    public int take(int arc) {
        return mark(arc, true);
    }

    public int untake(int arc) {
        return mark(arc, false);
    }

    public int merge() {
        return buildAnew();
    }

    public int pack() {
        buildAnew();
        turnedNumbers = arcs.count;
        arcs.renumber(turnRow);
        buildRows();
        return arcs.count;
    }

    public int turned(int old) {
        if (old < 0 || old >= turnedNumbers) {
            return UNKNOWN;
        }
        return turnRow[old];
    }

    public int out(int node, int k) throws IndexOutOfBoundsException {
        return arcInRow(outSide, node, k);
    }

    public int in(int node, int k) throws IndexOutOfBoundsException {
        return arcInRow(inSide, node, k);
    }

    public int offset(int node, boolean ofIn) {
        if (node != nodes && !isNode(node)) {
            return UNKNOWN;
        }
        return side(ofIn).offsets[node];
    }

    public int told(int arc, int what) {
        if (!arcs.has(arc)) {
            return UNKNOWN;
        }
        switch (what) {
            case 0:
                return arcs.from[arc];
            case 1:
                return arcs.to[arc];
            case 2:
                return arcs.state[arc] == ArcList.BUILT ? 1 : 0;
            case 3:
                return arcs.taken[arc] ? 1 : 0;
            case 4:
                return arcs.state[arc] == ArcList.LEFT ? 1 : 0;
            default:
                return OUTSIDE;
        }
    }

    public int degree(int node, boolean ofIn) {
        if (!isNode(node)) {
            return UNKNOWN;
        }
        return side(ofIn).countLive(node);
    }

    public int live(int node, boolean ofIn, int k) {
        if (!isNode(node)) {
            return UNKNOWN;
        }
        if (k < 0) {
            return OUTSIDE;
        }
        return side(ofIn).liveArc(node, k);
    }

    public int between(int from, int to) {
        if (!isNode(from) || !isNode(to)) {
            return UNKNOWN;
        }
        return arcs.countLiveBetween(from, to);
    }

    public int near(int from, int to) {
        if (!isNode(from) || !isNode(to)) {
            return UNKNOWN;
        }
        Arrays.fill(steps, NONE);
        steps[from] = 0;
        for (int step = 0; step < nodes && steps[to] == NONE; step++) {
            stepOnFrom(step);
        }
        return steps[to];
    }

    public long ways(int from, int to, int n) {
        if (!isNode(from) || !isNode(to)) {
            return UNKNOWN;
        }
        if (n < 0 || n > LONGEST_WAY) {
            return OUTSIDE;
        }
        Arrays.fill(waysHere, 0L);
        waysHere[from] = 1L;
        for (int step = 0; step < n; step++) {
            lengthenWays();
        }
        return waysHere[to];
    }

    public int open(int node, boolean ofIn) {
        if (!isNode(node)) {
            return UNKNOWN;
        }
        int iterator = iterators.leastFree();
        if (iterator == NONE) {
            return ROOM;
        }
        iterators.start(iterator, node, ofIn);
        return iterator;
    }

    public int next(int iterator) {
        if (!iterators.has(iterator)) {
            return UNKNOWN;
        }
        if (iterators.isStale[iterator]) {
            return STALE;
        }
        int node = iterators.node[iterator];
        Side side = side(iterators.ofIn[iterator]);
        int place = side.livePlaceFrom(node, iterators.lastPlace[iterator] + 1);
        if (place == NONE) {
            return NONE;
        }
        iterators.moveTo(iterator, place);
        return side.arcAt(node, place);
    }

    public int close(int iterator) {
        if (!iterators.has(iterator)) {
            return UNKNOWN;
        }
        iterators.isOpen[iterator] = false;
        return iterators.arcsTold[iterator];
    }

    public int give(boolean targets, int k, int v) {
        int[] row = targets ? given.targets : given.offsets;
        if (k < 0 || k >= row.length) {
            return OUTSIDE;
        }
        int stood = row[k];
        row[k] = v;
        return stood;
    }

    public int load(int m) {
        if (m < 0 || m > MOST_ARCS) {
            return OUTSIDE;
        }
        int fault = given.firstFault(nodes, m);
        if (fault != NO_FAULT) {
            return fault;
        }
        given.fill(arcs, nodes);
        buildRows();
        iterators.makeStale();
        turnedNumbers = 0;
        return NO_FAULT;
    }

    public int about(int what) {
        switch (what) {
            case 0:
                return nodes;
            case 1:
                return arcs.count;
            case 2:
                return arcs.countInState(ArcList.BUILT);
            case 3:
                return arcs.countInState(ArcList.WAITS);
            case 4:
                return arcs.countLive();
            case 5:
                return iterators.countOpen();
            default:
                return OUTSIDE;
        }
    }

    private boolean isNode(int node) {
        return node >= 0 && node < nodes;
    }

    private Side side(boolean ofIn) {
        return ofIn ? inSide : outSide;
    }

    private int mark(int arc, boolean asTaken) {
        if (!arcs.has(arc)) {
            return UNKNOWN;
        }
        if (arcs.state[arc] == ArcList.LEFT) {
            return GONE;
        }
        if (arcs.taken[arc] == asTaken) {
            return 0;
        }
        arcs.taken[arc] = asTaken;
        return 1;
    }

    private int buildAnew() {
        int changed = arcs.settle();
        buildRows();
        iterators.makeStale();
        return changed;
    }

    private void buildRows() {
        outSide.build();
        inSide.build();
    }

    private int arcInRow(Side side, int node, int k) {
        if (!isNode(node)) {
            throw new IndexOutOfBoundsException("no such node");
        }
        if (k < 0 || k >= side.rowLength(node)) {
            throw new IndexOutOfBoundsException("no such place in the row");
        }
        return side.arcAt(node, k);
    }

    private void stepOnFrom(int step) {
        for (int arc = 0; arc < arcs.count; arc++) {
            int to = arcs.to[arc];
            if (arcs.isLive(arc) && steps[arcs.from[arc]] == step && steps[to] == NONE) {
                steps[to] = step + 1;
            }
        }
    }

    private void lengthenWays() {
        Arrays.fill(waysOnward, 0L);
        for (int arc = 0; arc < arcs.count; arc++) {
            if (arcs.isLive(arc)) {
                waysOnward[arcs.to[arc]] += waysHere[arcs.from[arc]];
            }
        }
        System.arraycopy(waysOnward, 0, waysHere, 0, nodes);
    }

    /** All arcs by their numbers, those that are gone too: their numbers stay until the next turn. */
    private static final class ArcList {
        static final int WAITS = 0, BUILT = 1, LEFT = 2;

        final int[] from = new int[MOST_ARCS];
        final int[] to = new int[MOST_ARCS];
        final int[] state = new int[MOST_ARCS];
        final boolean[] taken = new boolean[MOST_ARCS];
        int count = 0;

        boolean has(int arc) {
            return arc >= 0 && arc < count;
        }

        boolean isLive(int arc) {
            return has(arc) && state[arc] != LEFT && !taken[arc];
        }

        boolean isWaiting(int arc) {
            return has(arc) && state[arc] == WAITS;
        }

        int append(int fromNode, int toNode, int newState) {
            if (count >= MOST_ARCS) {
                return ROOM;
            }
            int arc = count;
            from[arc] = fromNode;
            to[arc] = toNode;
            state[arc] = newState;
            taken[arc] = false;
            count++;
            return arc;
        }

        /** Builds what waits and lets go what is taken; tells how many arcs that changed. */
        int settle() {
            int changed = 0;
            for (int arc = 0; arc < count; arc++) {
                int settled = taken[arc] ? LEFT : BUILT;
                if (state[arc] != settled) {
                    state[arc] = settled;
                    changed++;
                }
            }
            return changed;
        }

        void renumber(int[] turnRow) {
            int oldCount = count;
            count = 0;
            // A new number is never above the old one, so nothing is written over before it is read.
            for (int arc = 0; arc < oldCount; arc++) {
                boolean stays = state[arc] != LEFT;
                turnRow[arc] = stays ? append(from[arc], to[arc], state[arc]) : NONE;
            }
        }

        int countInState(int wanted) {
            int found = 0;
            for (int arc = 0; arc < count; arc++) {
                if (state[arc] == wanted) {
                    found++;
                }
            }
            return found;
        }

        int countLive() {
            int found = 0;
            for (int arc = 0; arc < count; arc++) {
                if (isLive(arc)) {
                    found++;
                }
            }
            return found;
        }

        int countLiveBetween(int fromNode, int toNode) {
            int found = 0;
            for (int arc = 0; arc < count; arc++) {
                if (isLive(arc) && from[arc] == fromNode && to[arc] == toNode) {
                    found++;
                }
            }
            return found;
        }
    }

    /**
     * One way of the graph, out or in. A node's places are those of its row and, behind them, one for every arc
     * number, which is empty unless that arc waits at the node. So an arc keeps its place until the rows are built
     * anew, whatever is taken, untaken or added, and an iterator needs to know no more than the last place it told.
     */
    private static final class Side {
        final ArcList arcs;
        final int[] ownEnd;
        final int[] farEnd;
        final int[] offsets;
        final int[] row = new int[MOST_ARCS];
        final int[] numbers = new int[MOST_ARCS];
        final int[] byFarEnd = new int[MOST_ARCS];
        final int[] free;

        Side(int nodes, ArcList arcs, int[] ownEnd, int[] farEnd) {
            this.arcs = arcs;
            this.ownEnd = ownEnd;
            this.farEnd = farEnd;
            offsets = new int[nodes + 1];
            free = new int[nodes + 1];
        }

        /** Each pass keeps the order of equals, so the last key sorted by weighs most and the numbers least. */
        void build() {
            int size = listBuilt();
            sortByCounting(numbers, size, farEnd, byFarEnd);
            sortByCounting(byFarEnd, size, ownEnd, row);
        }

        int listBuilt() {
            int size = 0;
            for (int arc = 0; arc < arcs.count; arc++) {
                if (arcs.state[arc] == ArcList.BUILT) {
                    numbers[size] = arc;
                    size++;
                }
            }
            return size;
        }

        void sortByCounting(int[] source, int size, int[] keys, int[] sorted) {
            Arrays.fill(offsets, 0);
            for (int i = 0; i < size; i++) {
                offsets[keys[source[i]] + 1]++;
            }
            for (int node = 1; node < offsets.length; node++) {
                offsets[node] += offsets[node - 1];
            }
            System.arraycopy(offsets, 0, free, 0, offsets.length);
            for (int i = 0; i < size; i++) {
                int key = keys[source[i]];
                sorted[free[key]] = source[i];
                free[key]++;
            }
        }

        int rowLength(int node) {
            return offsets[node + 1] - offsets[node];
        }

        int countPlaces(int node) {
            return rowLength(node) + arcs.count;
        }

        int arcAt(int node, int place) {
            int length = rowLength(node);
            if (place < length) {
                return row[offsets[node] + place];
            }
            int arc = place - length;
            return arcs.isWaiting(arc) && ownEnd[arc] == node ? arc : NONE;
        }

        int livePlaceFrom(int node, int start) {
            int places = countPlaces(node);
            for (int place = start; place < places; place++) {
                if (arcs.isLive(arcAt(node, place))) {
                    return place;
                }
            }
            return NONE;
        }

        int countLive(int node) {
            int places = countPlaces(node);
            int found = 0;
            for (int place = 0; place < places; place++) {
                if (arcs.isLive(arcAt(node, place))) {
                    found++;
                }
            }
            return found;
        }

        int liveArc(int node, int k) {
            int places = countPlaces(node);
            int passed = 0;
            for (int place = 0; place < places; place++) {
                int arc = arcAt(node, place);
                if (arcs.isLive(arc)) {
                    if (passed == k) {
                        return arc;
                    }
                    passed++;
                }
            }
            return NONE;
        }
    }

    private static final class Iterators {
        final boolean[] isOpen = new boolean[MOST_ITERATORS];
        final boolean[] isStale = new boolean[MOST_ITERATORS];
        final boolean[] ofIn = new boolean[MOST_ITERATORS];
        final int[] node = new int[MOST_ITERATORS];
        final int[] lastPlace = new int[MOST_ITERATORS];
        final int[] arcsTold = new int[MOST_ITERATORS];

        boolean has(int iterator) {
            return iterator >= 0 && iterator < MOST_ITERATORS && isOpen[iterator];
        }

        int leastFree() {
            for (int iterator = 0; iterator < MOST_ITERATORS; iterator++) {
                if (!isOpen[iterator]) {
                    return iterator;
                }
            }
            return NONE;
        }

        void start(int iterator, int atNode, boolean alongIn) {
            isOpen[iterator] = true;
            isStale[iterator] = false;
            ofIn[iterator] = alongIn;
            node[iterator] = atNode;
            lastPlace[iterator] = NONE;
            arcsTold[iterator] = 0;
        }

        void moveTo(int iterator, int place) {
            lastPlace[iterator] = place;
            arcsTold[iterator]++;
        }

        /** Closed ones may be marked too: start() wipes the mark. */
        void makeStale() {
            for (int iterator = 0; iterator < MOST_ITERATORS; iterator++) {
                isStale[iterator] = true;
            }
        }

        int countOpen() {
            int found = 0;
            for (int iterator = 0; iterator < MOST_ITERATORS; iterator++) {
                if (isOpen[iterator]) {
                    found++;
                }
            }
            return found;
        }
    }

    /** Rows as the caller gave them: nothing in them may be trusted before firstFault() found none. */
    private static final class Given {
        final int[] offsets = new int[MOST_NODES + 1];
        final int[] targets = new int[MOST_ARCS];

        int firstFault(int nodes, int m) {
            for (int k = 0; k <= nodes; k++) {
                if (!isOffsetRight(k, nodes, m)) {
                    return OFFSET_FAULT + k;
                }
            }
            for (int k = 0; k < m; k++) {
                if (targets[k] < 0 || targets[k] >= nodes) {
                    return TARGET_FAULT + k;
                }
            }
            return NO_FAULT;
        }

        boolean isOffsetRight(int k, int nodes, int m) {
            int least = k == 0 ? 0 : offsets[k - 1];
            int most = k == 0 ? 0 : m;
            boolean isBetween = offsets[k] >= least && offsets[k] <= most;
            return isBetween && (k < nodes || offsets[k] == m);
        }

        void fill(ArcList arcs, int nodes) {
            arcs.count = 0;
            for (int node = 0; node < nodes; node++) {
                for (int k = offsets[node]; k < offsets[node + 1]; k++) {
                    arcs.append(node, targets[k], ArcList.BUILT);
                }
            }
        }
    }
}
