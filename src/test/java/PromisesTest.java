/** Each promise of the document by hand: ordinary inputs, the edges that it names, and wrong inputs. */
public final class PromisesTest {
    private static final int NONE = -1, UNKNOWN = -2, OUTSIDE = -3, STALE = -4, GONE = -5, ROOM = -6;
    private static final int THROWN = -1000;
    private static final int LEAST = Integer.MIN_VALUE, MOST = Integer.MAX_VALUE;

    private static int promise = 0;
    private static int wrong = 0;

    private static void due(String call, long got, long want) {
        if (got != want) {
            wrong++;
            System.out.println("promise " + promise + ": " + call + " answered " + got + ", due is " + want);
        }
    }

    private static int out(OffsetRows x, int node, int k) {
        try {
            return x.out(node, k);
        } catch (IndexOutOfBoundsException e) {
            return e.getClass() == IndexOutOfBoundsException.class ? THROWN : THROWN - 1;
        }
    }

    private static int in(OffsetRows x, int node, int k) {
        try {
            return x.in(node, k);
        } catch (IndexOutOfBoundsException e) {
            return e.getClass() == IndexOutOfBoundsException.class ? THROWN : THROWN - 1;
        }
    }

    /** A graph of n nodes with these arcs, given as from, to, from, to, ..: they wait. */
    private static OffsetRows graph(int n, int... ends) {
        OffsetRows x = new OffsetRows(n);
        for (int i = 0; i + 1 < ends.length; i += 2) {
            x.arc(ends[i], ends[i + 1]);
        }
        return x;
    }

    private static OffsetRows built(int n, int... ends) {
        OffsetRows x = graph(n, ends);
        x.merge();
        return x;
    }

    private static void dueRow(String what, OffsetRows x, int node, boolean ofIn, int... arcs) {
        for (int k = 0; k < arcs.length; k++) {
            due(what + ", place " + k, ofIn ? in(x, node, k) : out(x, node, k), arcs[k]);
        }
        due(what + ", its end", ofIn ? in(x, node, arcs.length) : out(x, node, arcs.length), THROWN);
    }

    private static void dueLive(String what, OffsetRows x, int node, boolean ofIn, int... arcs) {
        due(what + ", degree", x.degree(node, ofIn), arcs.length);
        for (int k = 0; k < arcs.length; k++) {
            due(what + ", live " + k, x.live(node, ofIn, k), arcs[k]);
        }
        due(what + ", its end", x.live(node, ofIn, arcs.length), NONE);
    }

    private static void dueAbout(String what, OffsetRows x, int numbers, int built, int waits, int live) {
        due(what + ", about(1)", x.about(1), numbers);
        due(what + ", about(2)", x.about(2), built);
        due(what + ", about(3)", x.about(3), waits);
        due(what + ", about(4)", x.about(4), live);
    }

    private static void giveRows(OffsetRows x, int[] offsets, int[] targets) {
        for (int k = 0; k < offsets.length; k++) {
            x.give(false, k, offsets[k]);
        }
        for (int k = 0; k < targets.length; k++) {
            x.give(true, k, targets[k]);
        }
    }

    private static void promise1NewObject() {
        int[][] sizes = {{1, 1}, {2, 2}, {23, 23}, {24, 24}, {25, 24}, {0, 1}, {-1, 1}, {LEAST, 1}, {MOST, 24}};
        for (int[] size : sizes) {
            OffsetRows x = new OffsetRows(size[0]);
            due("nodes of " + size[0], x.about(0), size[1]);
            dueAbout("new", x, 0, 0, 0, 0);
            due("iterators", x.about(5), 0);
            due("last node", x.degree(size[1] - 1, false), 0);
            due("behind the last node", x.degree(size[1], false), UNKNOWN);
            due("end", x.offset(size[1], true), 0);
        }
    }

    private static void promise2Arc() {
        OffsetRows x = new OffsetRows(3);
        due("first", x.arc(0, 2), 0);
        due("same way", x.arc(0, 2), 1);
        due("to itself", x.arc(1, 1), 2);
        due("it waits", x.told(2, 2), 0);
        due("no row has it", out(x, 1, 0), THROWN);
        int[][] none = {{3, 0}, {0, 3}, {-1, 0}, {0, -1}, {LEAST, MOST}, {MOST, LEAST}};
        for (int[] ends : none) {
            due("no node", x.arc(ends[0], ends[1]), UNKNOWN);
        }
        dueAbout("after refusals", x, 3, 0, 3, 3);
        roomOfArcs();
    }

    private static void roomOfArcs() {
        OffsetRows x = new OffsetRows(2);
        for (int arc = 0; arc < 160; arc++) {
            due("arc " + arc, x.arc(arc % 2, 1), arc);
        }
        due("161st", x.arc(0, 0), ROOM);
        due("a full graph is walked whole", x.near(1, 0), NONE);
        due("a full graph is counted whole", x.ways(0, 1, 2), 80L * 80L);
        due("unknown comes ahead of room", x.arc(0, 2), UNKNOWN);
        due("none came", x.between(0, 0), 0);
        x.take(5);
        due("a taken one", x.arc(0, 0), ROOM);
        x.merge();
        due("a gone one keeps its number", x.arc(0, 0), ROOM);
        x.pack();
        due("turned numbers make room", x.arc(0, 0), 159);
        due("full again", x.arc(0, 0), ROOM);
    }

    private static void promise3Take() {
        OffsetRows x = built(2, 0, 1, 1, 0);
        x.arc(0, 0);
        due("built", x.take(0), 1);
        due("it was", x.take(0), 0);
        due("waiting", x.take(2), 1);
        due("marked", x.told(2, 3), 1);
        due("not marked", x.told(1, 3), 0);
        dueAbout("marks only", x, 3, 2, 1, 1);
        due("no such arc", x.take(3), UNKNOWN);
        due("no such arc", x.take(-1), UNKNOWN);
        due("no such arc", x.take(MOST), UNKNOWN);
        due("no such arc", x.take(LEAST), UNKNOWN);
        x.merge();
        due("gone, was built", x.take(0), GONE);
        due("gone, waited", x.take(2), GONE);
        due("still there", x.take(1), 1);
    }

    private static void promise4Untake() {
        OffsetRows x = built(2, 0, 1, 1, 0);
        x.arc(0, 0);
        due("it was not", x.untake(0), 0);
        x.take(0);
        x.take(2);
        due("built", x.untake(0), 1);
        due("waiting", x.untake(2), 1);
        due("no more", x.untake(2), 0);
        dueAbout("all live", x, 3, 2, 1, 3);
        due("no such arc", x.untake(3), UNKNOWN);
        due("no such arc", x.untake(-1), UNKNOWN);
        due("no such arc", x.untake(LEAST), UNKNOWN);
        x.take(1);
        x.merge();
        due("gone", x.untake(1), GONE);
        due("taken still", x.told(1, 3), 1);
        due("not back", x.about(4), 2);
    }

    private static void promise5Merge() {
        OffsetRows x = graph(3, 0, 2, 0, 1, 2, 0, 0, 2);
        x.take(3);
        due("three came, one waits no more", x.merge(), 4);
        due("nothing to do", x.merge(), 0);
        dueAbout("merged", x, 4, 3, 0, 3);
        dueRow("out of 0", x, 0, false, 1, 0);
        due("gone, never built", x.told(3, 4), 1);
        x.take(1);
        dueRow("taken ones stay in the row", x, 0, false, 1, 0);
        x.arc(0, 0);
        due("one left, one came", x.merge(), 2);
        dueRow("out of 0", x, 0, false, 4, 0);
        x.take(0);
        x.untake(0);
        due("taken and back", x.merge(), 0);
        due("numbers stay", x.arc(1, 1), 5);
        mergeMakesStale();
    }

    private static void mergeMakesStale() {
        OffsetRows x = built(2, 0, 1);
        x.open(0, false);
        due("merge without change", x.merge(), 0);
        due("stale all the same", x.next(0), STALE);
    }

    private static void promise6Pack() {
        OffsetRows x = graph(3, 2, 1, 0, 1, 2, 0, 1, 1, 0, 0);
        x.merge();
        x.take(1);
        x.merge();
        x.take(3);
        x.arc(1, 2);
        x.arc(2, 2);
        x.take(6);
        due("four are left", x.pack(), 4);
        dueAbout("packed", x, 4, 4, 0, 4);
        int[][] ends = {{2, 1}, {2, 0}, {0, 0}, {1, 2}};
        for (int arc = 0; arc < 4; arc++) {
            due("from of " + arc, x.told(arc, 0), ends[arc][0]);
            due("to of " + arc, x.told(arc, 1), ends[arc][1]);
            due("built " + arc, x.told(arc, 2), 1);
            due("taken " + arc, x.told(arc, 3), 0);
            due("gone " + arc, x.told(arc, 4), 0);
        }
        due("no fifth", x.told(4, 0), UNKNOWN);
        dueRow("out of 2", x, 2, false, 1, 0);
        dueRow("out of 0", x, 0, false, 2);
        due("the next number", x.arc(0, 1), 4);
        due("a new arc is not taken", x.told(4, 3), 0);
        x.open(0, true);
        due("again", x.pack(), 5);
        due("stale", x.next(0), STALE);
        due("of none", new OffsetRows(3).pack(), 0);
    }

    private static void promise7Turned() {
        OffsetRows x = graph(2, 0, 1, 1, 0, 1, 1);
        due("no pack yet", x.turned(0), UNKNOWN);
        x.merge();
        due("merge turns nothing", x.turned(0), UNKNOWN);
        x.take(1);
        x.pack();
        due("0", x.turned(0), 0);
        due("1", x.turned(1), NONE);
        due("2", x.turned(2), 1);
        due("3", x.turned(3), UNKNOWN);
        due("-1", x.turned(-1), UNKNOWN);
        due("least", x.turned(LEAST), UNKNOWN);
        due("most", x.turned(MOST), UNKNOWN);
        x.arc(0, 0);
        x.take(0);
        x.merge();
        due("later calls leave it", x.turned(0), 0);
        due("later arcs are not in it", x.turned(3), UNKNOWN);
        x.pack();
        due("latest pack, 0", x.turned(0), NONE);
        due("latest pack, 1", x.turned(1), 0);
        due("latest pack, 2", x.turned(2), 1);
        due("latest pack, 3", x.turned(3), UNKNOWN);
        due("a fault", x.load(1), 3);
        due("a fault leaves it", x.turned(1), 0);
        due("outside", x.load(161), OUTSIDE);
        due("outside leaves it", x.turned(2), 1);
        due("a load", x.load(0), 0);
        due("load ends it", x.turned(0), UNKNOWN);
    }

    private static void promise8Out() {
        OffsetRows x = built(4, 1, 3, 1, 0, 2, 2, 1, 3, 1, 1, 1, 0);
        dueRow("by targets, then by numbers", x, 1, false, 1, 5, 4, 0, 3);
        dueRow("none", x, 0, false);
        dueRow("to itself", x, 2, false, 2);
        dueRow("last", x, 3, false);
        x.take(4);
        x.arc(1, 0);
        dueRow("with taken, without waiting", x, 1, false, 1, 5, 4, 0, 3);
        int[][] none = {{1, -1}, {1, LEAST}, {1, MOST}, {0, 1}, {0, -1}, {4, 0}, {-1, 0}, {LEAST, 0}, {MOST, 0}, {MOST, MOST}};
        for (int[] place : none) {
            due("out(" + place[0] + ", " + place[1] + ")", out(x, place[0], place[1]), THROWN);
        }
        due("nothing changed", x.about(4), 6);
    }

    private static void promise9In() {
        OffsetRows x = built(4, 3, 1, 0, 1, 2, 2, 3, 1, 1, 1, 0, 1);
        dueRow("by sources, then by numbers", x, 1, true, 1, 5, 4, 0, 3);
        dueRow("none", x, 0, true);
        dueRow("to itself", x, 2, true, 2);
        x.take(4);
        x.arc(0, 1);
        dueRow("with taken, without waiting", x, 1, true, 1, 5, 4, 0, 3);
        int[][] none = {{1, -1}, {1, LEAST}, {1, MOST}, {0, 1}, {0, -1}, {4, 0}, {-1, 0}, {LEAST, 0}, {MOST, 0}, {MOST, MOST}};
        for (int[] place : none) {
            due("in(" + place[0] + ", " + place[1] + ")", in(x, place[0], place[1]), THROWN);
        }
        due("nothing changed", x.about(4), 6);
    }

    private static void promise10Offset() {
        OffsetRows x = graph(3, 2, 0, 0, 1, 2, 1, 0, 1);
        due("what waits does not count", x.offset(3, false), 0);
        x.merge();
        x.arc(0, 0);
        int[] ofOut = {0, 2, 2, 4};
        int[] ofIn = {0, 1, 4, 4};
        for (int node = 0; node <= 3; node++) {
            due("out " + node, x.offset(node, false), ofOut[node]);
            due("in " + node, x.offset(node, true), ofIn[node]);
        }
        x.take(1);
        due("a taken one counts", x.offset(3, false), 4);
        x.merge();
        due("a gone one does not", x.offset(1, false), 2);
        for (int node : new int[] {4, -1, LEAST, MOST}) {
            due("no node", x.offset(node, false), UNKNOWN);
            due("no node", x.offset(node, true), UNKNOWN);
        }
    }

    private static void promise11Told() {
        OffsetRows x = built(3, 2, 1);
        x.arc(0, 2);
        x.arc(1, 0);
        x.take(2);
        int[][] before = {{2, 1, 1, 0, 0}, {0, 2, 0, 0, 0}, {1, 0, 0, 1, 0}};
        int[][] after = {{2, 1, 1, 0, 0}, {0, 2, 1, 0, 0}, {1, 0, 0, 1, 1}};
        for (int what = 0; what < 5; what++) {
            for (int arc = 0; arc < 3; arc++) {
                due("told(" + arc + ", " + what + ")", x.told(arc, what), before[arc][what]);
            }
        }
        x.merge();
        for (int what = 0; what < 5; what++) {
            for (int arc = 0; arc < 3; arc++) {
                due("merged, told(" + arc + ", " + what + ")", x.told(arc, what), after[arc][what]);
            }
        }
        x.take(0);
        due("built and taken", x.told(0, 2), 1);
        due("taken and built", x.told(0, 3), 1);
        x.merge();
        due("no longer built", x.told(0, 2), 0);
        for (int what : new int[] {-1, 5, LEAST, MOST}) {
            due("what = " + what, x.told(0, what), OUTSIDE);
            due("unknown comes ahead, what = " + what, x.told(3, what), UNKNOWN);
        }
        for (int arc : new int[] {-1, 3, LEAST, MOST}) {
            due("arc " + arc, x.told(arc, 0), UNKNOWN);
        }
    }

    private static void promise12Degree() {
        OffsetRows x = built(3, 0, 1, 0, 2, 1, 0, 0, 0);
        x.arc(0, 1);
        x.arc(2, 0);
        due("out", x.degree(0, false), 4);
        due("in", x.degree(0, true), 3);
        x.take(0);
        x.take(5);
        due("out without taken", x.degree(0, false), 3);
        due("in without taken", x.degree(0, true), 2);
        due("in without taken", x.degree(1, true), 1);
        x.merge();
        due("merged", x.degree(0, false), 3);
        for (int node : new int[] {3, -1, LEAST, MOST}) {
            due("no node", x.degree(node, false), UNKNOWN);
            due("no node", x.degree(node, true), UNKNOWN);
        }
    }

    private static void promise13Live() {
        OffsetRows x = built(3, 0, 2, 0, 1, 0, 2, 1, 2);
        x.arc(0, 0);
        x.arc(2, 2);
        x.arc(0, 1);
        dueLive("row, then waiting by numbers", x, 0, false, 1, 0, 2, 4, 6);
        dueLive("in", x, 2, true, 0, 2, 3, 5);
        x.take(0);
        x.take(4);
        dueLive("without taken", x, 0, false, 1, 2, 6);
        x.untake(4);
        dueLive("back at its place", x, 0, false, 1, 2, 4, 6);
        x.merge();
        dueLive("merged", x, 0, false, 4, 1, 6, 2);
        due("far", x.live(0, false, MOST), NONE);
        due("below 0", x.live(0, false, -1), OUTSIDE);
        due("below 0", x.live(0, true, LEAST), OUTSIDE);
        due("no node", x.live(3, false, 0), UNKNOWN);
        due("unknown comes ahead", x.live(-1, false, -1), UNKNOWN);
    }

    private static void promise14Between() {
        OffsetRows x = built(3, 0, 1, 0, 1, 1, 0, 2, 2);
        x.arc(0, 1);
        due("built and waiting", x.between(0, 1), 3);
        due("not the other way", x.between(1, 0), 1);
        due("to itself", x.between(2, 2), 1);
        due("none", x.between(0, 0), 0);
        x.take(0);
        x.take(4);
        due("without taken", x.between(0, 1), 1);
        x.merge();
        due("without gone", x.between(0, 1), 1);
        int[][] none = {{3, 0}, {0, 3}, {-1, 0}, {0, -1}, {LEAST, 0}, {0, MOST}};
        for (int[] ends : none) {
            due("no node", x.between(ends[0], ends[1]), UNKNOWN);
        }
    }

    private static void promise15Near() {
        OffsetRows x = built(5, 0, 1, 1, 2, 2, 3);
        due("three", x.near(0, 3), 3);
        due("to itself", x.near(4, 4), 0);
        due("not back", x.near(3, 0), NONE);
        due("not there", x.near(0, 4), NONE);
        x.arc(0, 2);
        due("by a waiting one", x.near(0, 3), 2);
        x.take(3);
        due("not by a taken one", x.near(0, 3), 3);
        x.take(1);
        due("cut", x.near(0, 3), NONE);
        x.merge();
        due("cut still", x.near(0, 3), NONE);
        int[][] none = {{5, 0}, {0, 5}, {-1, -1}, {5, 5}, {LEAST, 0}, {0, MOST}};
        for (int[] ends : none) {
            due("no node", x.near(ends[0], ends[1]), UNKNOWN);
        }
        OffsetRows chain = new OffsetRows(24);
        for (int node = 22; node >= 0; node--) {
            chain.arc(node, node + 1);
        }
        due("through all nodes", chain.near(0, 23), 23);
        due("through all nodes", chain.near(1, 23), 22);
    }

    private static void promise16Ways() {
        OffsetRows x = built(3, 0, 1, 0, 1, 1, 0);
        x.arc(1, 2);
        due("none, to itself", x.ways(0, 0, 0), 1);
        due("none, to another", x.ways(0, 1, 0), 0);
        due("each of several", x.ways(0, 1, 1), 2);
        due("round", x.ways(0, 0, 2), 2);
        due("also by a waiting one", x.ways(0, 2, 2), 2);
        due("exactly so many", x.ways(0, 2, 3), 0);
        due("60", x.ways(0, 0, 60), 1L << 30);
        x.take(0);
        due("not by a taken one", x.ways(0, 2, 4), 1);
        for (int n : new int[] {-1, 61, LEAST, MOST}) {
            due("n = " + n, x.ways(0, 0, n), OUTSIDE);
            due("unknown comes ahead, n = " + n, x.ways(0, 3, n), UNKNOWN);
        }
        due("no node", x.ways(-1, 0, 0), UNKNOWN);
        due("no node", x.ways(0, -1, 0), UNKNOWN);
        due("no node", x.ways(3, 0, 0), UNKNOWN);
        waysGoRound();
    }

    private static void waysGoRound() {
        OffsetRows x = new OffsetRows(1);
        for (int i = 0; i < 3; i++) {
            x.arc(0, 0);
        }
        long want = 1;
        for (int n = 0; n <= 60; n++) {
            due("3 to the power of " + n, x.ways(0, 0, n), want);
            want *= 3;
        }
    }

    private static void promise17Open() {
        OffsetRows x = new OffsetRows(2);
        for (int iterator = 0; iterator < 8; iterator++) {
            due("open", x.open(iterator % 2, iterator > 3), iterator);
        }
        due("a ninth", x.open(0, false), ROOM);
        due("unknown comes ahead", x.open(2, false), UNKNOWN);
        due("eight", x.about(5), 8);
        x.close(6);
        x.close(2);
        due("the least that is free", x.open(0, true), 2);
        due("then the next", x.open(0, true), 6);
        due("full", x.open(0, true), ROOM);
        x.merge();
        due("stale ones are open", x.open(0, false), ROOM);
        x.close(3);
        due("a new one", x.open(0, false), 3);
        due("is not stale", x.next(3), NONE);
        for (int node : new int[] {-1, 2, LEAST, MOST}) {
            due("no node", x.open(node, true), UNKNOWN);
        }
    }

    private static void promise18Next() {
        OffsetRows x = built(3, 0, 2, 0, 1, 0, 0);
        x.arc(0, 1);
        x.open(0, false);
        due("row", x.next(0), 2);
        due("row", x.next(0), 1);
        x.take(1);
        x.take(0);
        due("behind a taken one, past a taken one", x.next(0), 3);
        x.untake(0);
        x.untake(1);
        due("not back", x.next(0), NONE);
        x.arc(1, 0);
        due("another node's", x.next(0), NONE);
        x.arc(0, 0);
        x.arc(0, 2);
        x.take(5);
        due("came later", x.next(0), 6);
        x.untake(5);
        due("stands ahead", x.next(0), NONE);
        due("told", x.close(0), 4);
        due("closed", x.next(0), UNKNOWN);
        nextTakenAhead();
        nextOfIn();
        nextRefused();
    }

    private static void nextTakenAhead() {
        OffsetRows x = built(2, 0, 0, 0, 0, 0, 1);
        x.take(0);
        x.take(2);
        x.open(0, false);
        due("past the first", x.next(0), 1);
        due("none now", x.next(0), NONE);
        x.untake(0);
        due("it stands ahead", x.next(0), NONE);
        x.untake(2);
        due("it stands behind", x.next(0), 2);
        due("a second one goes its own way", x.open(0, false), 1);
        due("from the start", x.next(1), 0);
        due("the first one stays", x.next(0), NONE);
    }

    private static void nextOfIn() {
        OffsetRows x = built(3, 2, 1, 0, 1, 1, 1);
        x.arc(0, 1);
        x.open(1, true);
        for (int arc : new int[] {1, 2, 0, 3, NONE, NONE}) {
            due("in", x.next(0), arc);
        }
        due("told", x.close(0), 4);
    }

    private static void nextRefused() {
        OffsetRows x = built(2, 0, 1);
        for (int iterator : new int[] {-1, 0, 7, 8, LEAST, MOST}) {
            due("not open", x.next(iterator), UNKNOWN);
        }
        x.open(0, false);
        x.pack();
        due("stale by pack", x.next(0), STALE);
        x.close(0);
        x.open(0, false);
        due("a fault", x.load(1), 3);
        due("not stale by a fault", x.next(0), 0);
        due("outside", x.load(-1), OUTSIDE);
        due("not stale by what is refused", x.next(0), NONE);
        due("a load", x.load(0), 0);
        due("stale by load", x.next(0), STALE);
        due("told one", x.close(0), 1);
    }

    private static void promise19Close() {
        OffsetRows x = built(2, 0, 1, 0, 0);
        x.open(0, false);
        x.open(1, false);
        x.next(0);
        x.next(0);
        x.next(0);
        x.next(1);
        due("told two", x.close(0), 2);
        due("open", x.about(5), 1);
        due("told none", x.close(1), 0);
        due("closed", x.close(1), UNKNOWN);
        for (int iterator : new int[] {-1, 0, 8, LEAST, MOST}) {
            due("not open", x.close(iterator), UNKNOWN);
        }
        due("anew", x.open(0, false), 0);
        due("from the start", x.next(0), 1);
        x.merge();
        due("stale ones close too", x.close(0), 1);
        x.open(0, false);
        due("counts anew", x.close(0), 0);
    }

    private static void promise20Give() {
        OffsetRows x = new OffsetRows(2);
        for (int k : new int[] {0, 2, 24}) {
            due("offset at first", x.give(false, k, 7 + k), 0);
            due("offset", x.give(false, k, LEAST), 7 + k);
            due("any number", x.give(false, k, 0), LEAST);
        }
        for (int k : new int[] {0, 24, 25, 159}) {
            due("target at first", x.give(true, k, -7 - k), 0);
            due("target", x.give(true, k, MOST), -7 - k);
            due("any number", x.give(true, k, 0), MOST);
        }
        for (int k : new int[] {-1, 25, 159, LEAST, MOST}) {
            due("no offset", x.give(false, k, 5), OUTSIDE);
        }
        for (int k : new int[] {-1, 160, LEAST, MOST}) {
            due("no target", x.give(true, k, 5), OUTSIDE);
        }
        due("refused, nothing changed", x.give(true, 159, 0), 0);
        due("refused, nothing changed", x.give(false, 24, 0), 0);
        due("the graph is as it was", x.about(1), 0);
    }

    private static void promise21Load() {
        OffsetRows x = graph(3, 0, 1, 2, 2);
        giveRows(x, new int[] {0, 3, 3, 5}, new int[] {2, 0, 2, 1, 0});
        x.take(1);
        due("load", x.load(5), 0);
        dueAbout("loaded", x, 5, 5, 0, 5);
        dueRow("rows are ordered", x, 0, false, 1, 0, 2);
        dueRow("empty", x, 1, false);
        dueRow("out of 2", x, 2, false, 4, 3);
        dueRow("into 0", x, 0, true, 1, 4);
        dueRow("into 2", x, 2, true, 0, 2);
        int[] from = {0, 0, 0, 2, 2};
        for (int arc = 0; arc < 5; arc++) {
            due("from of " + arc, x.told(arc, 0), from[arc]);
            due("not taken", x.told(arc, 3), 0);
        }
        due("the next number", x.arc(1, 1), 5);
        due("what is given stays", x.give(false, 1, 3), 3);
        due("again", x.load(5), 0);
        due("numbers", x.about(1), 5);
        loadFaults();
        loadEdges();
    }

    private static void dueFault(int[] offsets, int[] targets, int m, int want) {
        OffsetRows x = built(3, 0, 1, 1, 2);
        x.take(0);
        x.arc(2, 2);
        giveRows(x, offsets, targets);
        due("judged", x.load(m), want);
        dueAbout("nothing changed", x, 3, 2, 1, 2);
        dueRow("nothing changed", x, 0, false, 0);
        due("nothing changed", x.told(0, 3), 1);
    }

    private static void loadFaults() {
        int[] targets = {0, 1, 2, 0};
        dueFault(new int[] {1, 2, 3, 4}, targets, 4, 1);
        dueFault(new int[] {-1, 2, 3, 4}, targets, 4, 1);
        dueFault(new int[] {0, -1, 3, 4}, targets, 4, 2);
        dueFault(new int[] {0, 5, 3, 4}, targets, 4, 2);
        dueFault(new int[] {0, MOST, LEAST, 4}, targets, 4, 2);
        dueFault(new int[] {0, 2, 1, 4}, targets, 4, 3);
        dueFault(new int[] {0, 2, 5, 4}, targets, 4, 3);
        dueFault(new int[] {0, 2, 3, 3}, targets, 4, 4);
        dueFault(new int[] {0, 2, 3, 5}, targets, 4, 4);
        dueFault(new int[] {0, 2, 3, 2}, targets, 4, 4);
        dueFault(new int[] {0, 2, 3, 4}, new int[] {3, 1, 2, 0}, 4, 100);
        dueFault(new int[] {0, 2, 3, 4}, new int[] {0, 1, -1, 9}, 4, 102);
        dueFault(new int[] {0, 2, 3, 4}, new int[] {0, 1, 2, LEAST}, 4, 103);
        dueFault(new int[] {0, 2, 3, 3}, new int[] {9, 9, 9, 9}, 4, 4);
        for (int m : new int[] {-1, 161, LEAST, MOST}) {
            dueFault(new int[] {0, 0, 0, m}, targets, m, OUTSIDE);
        }
    }

    private static void loadEdges() {
        OffsetRows none = graph(3, 0, 1);
        giveRows(none, new int[] {0, 0, 0, 0, 77}, new int[] {99});
        due("none; what stands behind m and N is not judged", none.load(0), 0);
        dueAbout("none", none, 0, 0, 0, 0);
        OffsetRows full = new OffsetRows(1);
        full.give(false, 1, 160);
        due("160", full.load(160), 0);
        due("160", full.about(2), 160);
        due("full", full.arc(0, 0), ROOM);
        due("the last", out(full, 0, 159), 159);
        full.give(true, 159, 1);
        due("the last target", full.load(160), 259);
        OffsetRows wide = new OffsetRows(24);
        wide.give(false, 24, 1);
        due("24 nodes", wide.load(1), 0);
        due("from the last", wide.told(0, 0), 23);
        due("the last offset", wide.load(2), 25);
    }

    private static void promise22About() {
        OffsetRows x = built(4, 0, 1, 1, 2, 2, 3);
        x.take(2);
        x.merge();
        x.take(1);
        x.arc(3, 3);
        x.arc(3, 3);
        x.arc(3, 3);
        x.take(5);
        x.open(0, false);
        x.open(0, true);
        int[] want = {4, 6, 2, 3, 3, 2};
        for (int what = 0; what < 6; what++) {
            due("about(" + what + ")", x.about(what), want[what]);
        }
        x.merge();
        int[] merged = {4, 6, 3, 0, 3, 2};
        for (int what = 0; what < 6; what++) {
            due("merged, about(" + what + ")", x.about(what), merged[what]);
        }
        for (int what : new int[] {-1, 6, LEAST, MOST}) {
            due("about(" + what + ")", x.about(what), OUTSIDE);
        }
    }

    private static void runPromise(int number) {
        promise = number;
        switch (number) {
            case 1: promise1NewObject(); break;
            case 2: promise2Arc(); break;
            case 3: promise3Take(); break;
            case 4: promise4Untake(); break;
            case 5: promise5Merge(); break;
            case 6: promise6Pack(); break;
            case 7: promise7Turned(); break;
            case 8: promise8Out(); break;
            case 9: promise9In(); break;
            case 10: promise10Offset(); break;
            case 11: promise11Told(); break;
            case 12: promise12Degree(); break;
            case 13: promise13Live(); break;
            case 14: promise14Between(); break;
            case 15: promise15Near(); break;
            case 16: promise16Ways(); break;
            case 17: promise17Open(); break;
            case 18: promise18Next(); break;
            case 19: promise19Close(); break;
            case 20: promise20Give(); break;
            case 21: promise21Load(); break;
            default: promise22About(); break;
        }
    }

    public static void main(String[] args) {
        for (int number = 1; number <= 22; number++) {
            runPromise(number);
        }
        System.out.println(wrong == 0 ? "all promises hold" : wrong + " answers are not as due");
        if (wrong != 0) {
            System.exit(1);
        }
    }
}
