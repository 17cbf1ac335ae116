import java.math.BigInteger;
import java.util.Arrays;

/**
 * Each sentence of the document that names a boundary, by a test of its own: the last number that is still taken and
 * the first that is refused; nothing there, one, and full; what goes round. Refusals as such are RefusalsTest's.
 */
public final class BoundariesTest {
    private static final int NONE = -1, UNKNOWN = -2, OUTSIDE = -3, STALE = -4, GONE = -5, ROOM = -6;
    private static final int THROWN = -1000;
    private static final int LEAST = Integer.MIN_VALUE, MOST = Integer.MAX_VALUE;
    private static final boolean OUT = false, IN = true;
    private static final boolean OFFSETS = false, TARGETS = true;

    private static String sentence = "";
    private static int sentences = 0;
    private static int wrong = 0;

    private static void holds(String words, Runnable test) {
        sentence = words;
        sentences++;
        test.run();
    }

    private static void due(String call, long got, long want) {
        if (got != want) {
            wrong++;
            System.out.println("\"" + sentence + "\": " + call + " answered " + got + ", due is " + want);
        }
    }

    /** The machine's own exceptions are classes below this one, and none of them may get out. */
    private static int place(OffsetRows x, int node, boolean ofIn, int k) {
        try {
            return ofIn ? x.in(node, k) : x.out(node, k);
        } catch (IndexOutOfBoundsException e) {
            return e.getClass() == IndexOutOfBoundsException.class ? THROWN : THROWN - 1;
        }
    }

    /** A graph of n nodes with these arcs, given as from, to, from, to, ..: they wait. */
    private static OffsetRows waiting(int n, int... ends) {
        OffsetRows x = new OffsetRows(n);
        for (int i = 0; i + 1 < ends.length; i += 2) {
            x.arc(ends[i], ends[i + 1]);
        }
        return x;
    }

    private static OffsetRows built(int n, int... ends) {
        OffsetRows x = waiting(n, ends);
        x.merge();
        return x;
    }

    /** As many arcs as there is room for, all the same way. */
    private static OffsetRows full(int n, int from, int to) {
        OffsetRows x = new OffsetRows(n);
        for (int arc = 0; arc < 160; arc++) {
            x.arc(from, to);
        }
        return x;
    }

    private static void giveOffsets(OffsetRows x, int... offsets) {
        for (int k = 0; k < offsets.length; k++) {
            x.give(OFFSETS, k, offsets[k]);
        }
    }

    private static void giveTargets(OffsetRows x, int... targets) {
        for (int k = 0; k < targets.length; k++) {
            x.give(TARGETS, k, targets[k]);
        }
    }

    private static void dueRow(OffsetRows x, int node, boolean ofIn, int... arcs) {
        String row = (ofIn ? "in(" : "out(") + node + ", ";
        for (int k = 0; k < arcs.length; k++) {
            due(row + k + ")", place(x, node, ofIn, k), arcs[k]);
        }
        due(row + arcs.length + ")", place(x, node, ofIn, arcs.length), THROWN);
    }

    private static void dueLive(OffsetRows x, int node, boolean ofIn, int... arcs) {
        due("degree(" + node + ")", x.degree(node, ofIn), arcs.length);
        for (int k = 0; k < arcs.length; k++) {
            due("live(" + node + ", " + k + ")", x.live(node, ofIn, k), arcs[k]);
        }
        due("live(" + node + ", " + arcs.length + ")", x.live(node, ofIn, arcs.length), NONE);
    }

    private static void dueNext(OffsetRows x, int iterator, int... arcs) {
        for (int arc : arcs) {
            due("next(" + iterator + ")", x.next(iterator), arc);
        }
    }

    private static void dueOffsets(OffsetRows x, boolean ofIn, int... offsets) {
        for (int node = 0; node < offsets.length; node++) {
            due("offset(" + node + ", " + ofIn + ")", x.offset(node, ofIn), offsets[node]);
        }
    }

    private static void dueAbout(OffsetRows x, int numbers, int built, int waits, int live) {
        due("about(1)", x.about(1), numbers);
        due("about(2)", x.about(2), built);
        due("about(3)", x.about(3), waits);
        due("about(4)", x.about(4), live);
    }

    private static void dueNodes(int n, int nodes) {
        OffsetRows x = new OffsetRows(n);
        due("about(0) of " + n, x.about(0), nodes);
        due("the last node of " + n, x.arc(nodes - 1, nodes - 1), 0);
        due("behind the last node of " + n, x.arc(nodes, 0), UNKNOWN);
    }

    // Promise 1 and the bounds

    private static void nodesFrom1To24() {
        for (int n = 1; n <= 24; n++) {
            dueNodes(n, n);
        }
    }

    private static void fewerNodesCountAs1() {
        for (int n : new int[] {0, -1, -2, -24, LEAST}) {
            dueNodes(n, 1);
        }
    }

    private static void moreNodesCountAs24() {
        for (int n : new int[] {25, 26, 160, MOST}) {
            dueNodes(n, 24);
        }
    }

    private static void newObjectHasNoArcs() {
        for (int n : new int[] {1, 24}) {
            OffsetRows x = new OffsetRows(n);
            dueAbout(x, 0, 0, 0, 0);
            due("told(0, 0)", x.told(0, 0), UNKNOWN);
            due("about(5)", x.about(5), 0);
            dueLive(x, n - 1, OUT);
            dueLive(x, n - 1, IN);
            dueRow(x, n - 1, OUT);
            dueRow(x, n - 1, IN);
            due("merge()", x.merge(), 0);
        }
    }

    private static void theLastCalls() {
        OffsetRows x = new OffsetRows(2);
        for (int calls = 0; calls < 510; calls += 3) {
            due("arc()", x.arc(0, 1), 0);
            due("take(0)", x.take(0), 1);
            due("pack()", x.pack(), 0);
        }
        due("call 511", x.open(1, OUT), 0);
        due("call 512", x.about(5), 1);
    }

    private static void numbersFromZero() {
        OffsetRows x = new OffsetRows(2);
        due("the first", x.arc(1, 0), 0);
        due("the second", x.arc(0, 0), 1);
        x.merge();
        due("the third, behind a merge", x.arc(0, 1), 2);
    }

    private static void room160() {
        OffsetRows x = new OffsetRows(24);
        for (int arc = 0; arc < 160; arc++) {
            due("arc()", x.arc(arc % 24, 23 - arc % 24), arc);
        }
        due("the 161st", x.arc(0, 0), ROOM);
        due("the 162nd", x.arc(23, 23), ROOM);
        due("about(1)", x.about(1), 160);
    }

    private static void takenOnesKeepTheirRoom() {
        OffsetRows x = full(2, 0, 1);
        x.take(159);
        due("one is taken", x.arc(0, 0), ROOM);
    }

    private static void goneOnesKeepTheirNumbers() {
        OffsetRows x = full(2, 0, 1);
        x.take(0);
        x.take(159);
        x.merge();
        due("two are gone", x.arc(0, 0), ROOM);
        due("about(1)", x.about(1), 160);
    }

    private static void packMakesRoomForTheGone() {
        OffsetRows x = full(2, 0, 1);
        due("none is gone", x.pack(), 160);
        due("no room", x.arc(0, 0), ROOM);
        x.take(0);
        x.take(159);
        due("two are", x.pack(), 158);
        due("room for one", x.arc(0, 0), 158);
        due("and another", x.arc(0, 0), 159);
        due("no more", x.arc(0, 0), ROOM);
    }

    private static void packOfAllTakenMakesAllRoom() {
        OffsetRows x = full(1, 0, 0);
        for (int arc = 0; arc < 160; arc++) {
            x.take(arc);
        }
        due("pack()", x.pack(), 0);
        due("arc()", x.arc(0, 0), 0);
    }

    private static void loadLeavesTheRest() {
        OffsetRows x = new OffsetRows(1);
        giveOffsets(x, 0, 159);
        due("load(159)", x.load(159), 0);
        due("the last number", x.arc(0, 0), 159);
        due("no room", x.arc(0, 0), ROOM);
        giveOffsets(x, 0, 160);
        due("load(160)", x.load(160), 0);
        due("no room at all", x.arc(0, 0), ROOM);
    }

    private static void severalTheSameWay() {
        OffsetRows x = full(2, 1, 1);
        x.merge();
        due("between(1, 1)", x.between(1, 1), 160);
        due("out(1, 0)", place(x, 1, OUT, 0), 0);
        due("out(1, 159)", place(x, 1, OUT, 159), 159);
        due("in(1, 159)", place(x, 1, IN, 159), 159);
    }

    // The rows

    private static void outRowByTargetsThenNumbers() {
        OffsetRows x = built(3, 1, 2, 1, 1, 1, 0, 1, 2, 1, 1, 1, 0);
        dueRow(x, 0, OUT);
        dueRow(x, 1, OUT, 2, 5, 1, 4, 0, 3);
        dueRow(x, 2, OUT);
    }

    private static void inRowBySourcesThenNumbers() {
        OffsetRows x = built(3, 2, 1, 1, 1, 0, 1, 2, 1, 1, 1, 0, 1);
        dueRow(x, 0, IN);
        dueRow(x, 1, IN, 2, 5, 1, 4, 0, 3);
        dueRow(x, 2, IN);
    }

    private static void laterOnesComeIntoTheirOrder() {
        OffsetRows x = built(3, 0, 2, 0, 0);
        x.arc(0, 1);
        x.arc(0, 0);
        x.merge();
        dueRow(x, 0, OUT, 1, 3, 2, 0);
    }

    private static void rowsKeepTheTaken() {
        OffsetRows x = built(2, 0, 1, 0, 1);
        x.take(0);
        x.take(1);
        dueRow(x, 0, OUT, 0, 1);
        dueRow(x, 1, IN, 0, 1);
        dueOffsets(x, OUT, 0, 2, 2);
    }

    private static void rowsLackWhatWaits() {
        OffsetRows x = waiting(2, 0, 1);
        dueRow(x, 0, OUT);
        dueRow(x, 1, IN);
        dueOffsets(x, OUT, 0, 0, 0);
        dueOffsets(x, IN, 0, 0, 0);
    }

    private static void offsetsOfEmptyRows() {
        OffsetRows x = built(4, 1, 2);
        dueOffsets(x, OUT, 0, 0, 1, 1, 1);
        dueOffsets(x, IN, 0, 0, 0, 1, 1);
    }

    private static void offsetsOfFullRows() {
        OffsetRows x = full(24, 0, 23);
        x.merge();
        due("out of 0", x.offset(0, OUT), 0);
        due("out of 1", x.offset(1, OUT), 160);
        due("in of 23", x.offset(23, IN), 0);
        due("in of N", x.offset(24, IN), 160);
    }

    private static void offsetOfN() {
        OffsetRows small = built(1, 0, 0);
        due("offset(1)", small.offset(1, OUT), 1);
        due("offset(2)", small.offset(2, OUT), UNKNOWN);
        OffsetRows large = built(24, 23, 0);
        due("offset(24)", large.offset(24, OUT), 1);
        due("offset(25)", large.offset(25, OUT), UNKNOWN);
        due("offset(25), in", large.offset(25, IN), UNKNOWN);
    }

    private static void machineReadsARow() {
        OffsetRows x = built(3, 0, 1, 1, 1, 1, 2);
        due("the last of the first row", place(x, 0, OUT, 0), 0);
        due("what stands behind is another's", place(x, 0, OUT, 1), THROWN);
        due("the first of the next", place(x, 1, OUT, 0), 1);
        due("what stands ahead is another's", place(x, 1, OUT, -1), THROWN);
        due("the last of all", place(x, 1, OUT, 1), 2);
        due("behind all", place(x, 1, OUT, 2), THROWN);
        due("in: the last of a row", place(x, 1, IN, 1), 1);
        due("in: behind it", place(x, 1, IN, 2), THROWN);
        due("in: ahead of the next", place(x, 2, IN, -1), THROWN);
    }

    private static void noSuchPlace() {
        OffsetRows x = full(1, 0, 0);
        x.merge();
        for (int k : new int[] {-1, 160, 161, LEAST, MOST}) {
            due("out(0, " + k + ")", place(x, 0, OUT, k), THROWN);
            due("in(0, " + k + ")", place(x, 0, IN, k), THROWN);
        }
        due("out(0, 159)", place(x, 0, OUT, 159), 159);
        due("in(0, 159)", place(x, 0, IN, 159), 159);
    }

    private static void noSuchNodeInRows() {
        OffsetRows x = built(24, 23, 23, 0, 0);
        due("out(23, 0)", place(x, 23, OUT, 0), 0);
        due("in(23, 0)", place(x, 23, IN, 0), 0);
        for (int node : new int[] {-1, 24, 25, LEAST, MOST}) {
            due("out(" + node + ", 0)", place(x, node, OUT, 0), THROWN);
            due("in(" + node + ", 0)", place(x, node, IN, 0), THROWN);
        }
    }

    // Promises 3 to 7

    private static void takeOnceAndAgain() {
        OffsetRows x = full(2, 0, 1);
        due("the first", x.take(0), 1);
        due("it was", x.take(0), 0);
        due("the last", x.take(159), 1);
        due("it was", x.take(159), 0);
        due("about(4)", x.about(4), 158);
    }

    private static void untakeOnceAndAgain() {
        OffsetRows x = full(2, 0, 1);
        due("it was not", x.untake(159), 0);
        x.take(159);
        due("it was", x.untake(159), 1);
        due("no more", x.untake(159), 0);
        due("about(4)", x.about(4), 160);
    }

    private static void mergeOfNone() {
        OffsetRows x = new OffsetRows(3);
        due("no arcs", x.merge(), 0);
        x.arc(0, 1);
        due("one", x.merge(), 1);
        due("it is built already", x.merge(), 0);
    }

    private static void mergeOfAll() {
        OffsetRows x = full(2, 0, 1);
        due("all came", x.merge(), 160);
        for (int arc = 0; arc < 160; arc++) {
            x.take(arc);
        }
        due("all left", x.merge(), 160);
        dueAbout(x, 160, 0, 0, 0);
        due("all are gone already", x.merge(), 0);
    }

    private static void mergeCountsEachOnce() {
        OffsetRows x = built(2, 0, 1, 0, 0, 1, 0);
        x.take(0);
        x.arc(1, 1);
        x.arc(1, 1);
        x.take(4);
        due("one left, one came, one waits no more", x.merge(), 3);
        dueAbout(x, 5, 3, 0, 3);
    }

    private static void takenWaitingOneIsGone() {
        OffsetRows x = waiting(2, 0, 1);
        x.take(0);
        due("it waits no more", x.merge(), 1);
        int[] want = {0, 1, 0, 1, 1};
        for (int what = 0; what < 5; what++) {
            due("told(0, " + what + ")", x.told(0, what), want[what]);
        }
        dueRow(x, 0, OUT);
        dueAbout(x, 1, 0, 0, 0);
    }

    private static void untakenInTimeStays() {
        OffsetRows x = built(2, 0, 1);
        x.arc(0, 0);
        x.take(0);
        x.take(1);
        x.untake(0);
        x.untake(1);
        due("only the waiting one came", x.merge(), 1);
        dueRow(x, 0, OUT, 1, 0);
    }

    private static void packOfNone() {
        OffsetRows x = new OffsetRows(3);
        due("no arcs", x.pack(), 0);
        due("no number", x.turned(0), UNKNOWN);
        x.arc(0, 1);
        due("one", x.pack(), 1);
        due("it keeps its number", x.turned(0), 0);
        due("no second", x.turned(1), UNKNOWN);
        x.take(0);
        due("none is left", x.pack(), 0);
        due("it has no new one", x.turned(0), NONE);
        due("none again", x.pack(), 0);
        due("there was no number", x.turned(0), UNKNOWN);
    }

    private static void packOfAll() {
        OffsetRows x = full(2, 0, 1);
        x.take(0);
        due("pack()", x.pack(), 159);
        due("the first had none", x.turned(0), NONE);
        due("the second", x.turned(1), 0);
        due("the last", x.turned(159), 158);
        due("there was no 160", x.turned(160), UNKNOWN);
        due("the last one now", x.told(158, 2), 1);
        due("no more", x.told(159, 2), UNKNOWN);
        due("its place", place(x, 0, OUT, 158), 158);
    }

    private static void packMergesFirst() {
        OffsetRows x = built(2, 0, 0, 0, 1);
        x.take(0);
        x.arc(1, 1);
        x.arc(1, 0);
        x.take(3);
        due("pack()", x.pack(), 2);
        dueAbout(x, 2, 2, 0, 2);
        dueOffsets(x, OUT, 0, 1, 2);
        due("0 left", x.turned(0), NONE);
        due("1 stays", x.turned(1), 0);
        due("2 came", x.turned(2), 1);
        due("3 waits no more", x.turned(3), NONE);
    }

    private static void packKeepsTheOrderOfNumbers() {
        OffsetRows x = built(3, 2, 0, 1, 0, 0, 2, 0, 1);
        x.take(1);
        x.pack();
        int[][] ends = {{2, 0}, {0, 2}, {0, 1}};
        for (int arc = 0; arc < 3; arc++) {
            due("told(" + arc + ", 0)", x.told(arc, 0), ends[arc][0]);
            due("told(" + arc + ", 1)", x.told(arc, 1), ends[arc][1]);
        }
        dueRow(x, 0, OUT, 2, 1);
        dueRow(x, 0, IN, 0);
    }

    private static void oneGoneAndNumbersTurned() {
        OffsetRows x = waiting(2, 0, 0, 0, 1);
        x.take(0);
        x.pack();
        due("a new one has the next number", x.arc(1, 1), 1);
        due("and no mark of the old one", x.told(1, 3), 0);
        due("nor is it gone", x.told(1, 4), 0);
        due("nor built", x.told(1, 2), 0);
    }

    private static void noNewNumberForTheGone() {
        OffsetRows x = built(2, 0, 0, 0, 1, 1, 0);
        x.take(0);
        x.merge();
        x.take(1);
        x.arc(1, 1);
        x.take(3);
        x.arc(1, 1);
        due("pack()", x.pack(), 2);
        due("it was gone ahead of pack", x.turned(0), NONE);
        due("it was built and taken", x.turned(1), NONE);
        due("it stays", x.turned(2), 0);
        due("it waited and was taken", x.turned(3), NONE);
        due("it waited", x.turned(4), 1);
        due("there was no more", x.turned(5), UNKNOWN);
    }

    private static void noPackNoTurnRow() {
        OffsetRows x = waiting(2, 0, 1);
        due("no pack", x.turned(0), UNKNOWN);
        x.merge();
        due("merge is none", x.turned(0), UNKNOWN);
        giveOffsets(x, 0, 1, 1);
        x.load(1);
        due("load is none", x.turned(0), UNKNOWN);
    }

    private static void loadEndsTheTurnRow() {
        OffsetRows x = waiting(2, 0, 1, 1, 0);
        x.pack();
        due("ahead of load", x.turned(1), 1);
        x.load(0);
        due("behind load", x.turned(1), UNKNOWN);
        due("behind load", x.turned(0), UNKNOWN);
        x.arc(0, 0);
        x.pack();
        due("a pack behind load", x.turned(0), 0);
        due("only what was there then", x.turned(1), UNKNOWN);
    }

    private static void latestPackCounts() {
        OffsetRows x = waiting(2, 0, 1, 1, 0, 1, 1);
        x.take(0);
        x.pack();
        due("the first pack, 2", x.turned(2), 1);
        x.take(0);
        x.pack();
        due("the latest, 0", x.turned(0), NONE);
        due("the latest, 1", x.turned(1), 0);
        due("there was no 2 then", x.turned(2), UNKNOWN);
    }

    private static void numbersThatThereWereNot() {
        OffsetRows x = full(1, 0, 0);
        x.pack();
        x.take(5);
        x.merge();
        due("the last", x.turned(159), 159);
        due("later marks change nothing", x.turned(5), 5);
        for (int old : new int[] {-1, 160, LEAST, MOST}) {
            due("turned(" + old + ")", x.turned(old), UNKNOWN);
        }
    }

    // Promises 11 to 16

    private static void toldWhats() {
        OffsetRows x = built(24, 23, 7);
        int[] want = {23, 7, 1, 0, 0};
        for (int what = 0; what < 5; what++) {
            due("told(0, " + what + ")", x.told(0, what), want[what]);
        }
        for (int what : new int[] {-1, 5, 6, LEAST, MOST}) {
            due("told(0, " + what + ")", x.told(0, what), OUTSIDE);
        }
    }

    private static void toldArcs() {
        OffsetRows x = full(2, 1, 0);
        due("the first", x.told(0, 0), 1);
        due("the last", x.told(159, 0), 1);
        for (int arc : new int[] {-1, 160, LEAST, MOST}) {
            due("told(" + arc + ", 0)", x.told(arc, 0), UNKNOWN);
        }
    }

    private static void degreesOfNoneOneAndAll() {
        OffsetRows x = full(3, 1, 2);
        due("all wait", x.degree(1, OUT), 160);
        due("none", x.degree(0, OUT), 0);
        due("into none", x.degree(1, IN), 0);
        due("all come in", x.degree(2, IN), 160);
        for (int arc = 1; arc < 160; arc++) {
            x.take(arc);
        }
        due("one is live", x.degree(1, OUT), 1);
        x.merge();
        due("one is built", x.degree(1, OUT), 1);
        due("into 2", x.degree(2, IN), 1);
        x.take(0);
        due("none is live", x.degree(1, OUT), 0);
    }

    private static void loopsAreOutAndIn() {
        OffsetRows x = waiting(2, 1, 1);
        dueLive(x, 1, OUT, 0);
        dueLive(x, 1, IN, 0);
        x.merge();
        dueLive(x, 1, OUT, 0);
        dueLive(x, 1, IN, 0);
    }

    private static void liveInOrder() {
        OffsetRows x = built(3, 0, 2, 0, 1, 0, 0);
        x.arc(0, 1);
        x.arc(1, 0);
        x.arc(0, 0);
        dueLive(x, 0, OUT, 2, 1, 0, 3, 5);
        x.take(1);
        x.take(3);
        dueLive(x, 0, OUT, 2, 0, 5);
        dueLive(x, 0, IN, 2, 4, 5);
    }

    private static void lastLiveAndBehindIt() {
        OffsetRows x = full(2, 0, 1);
        due("the first", x.live(0, OUT, 0), 0);
        due("the last", x.live(0, OUT, 159), 159);
        due("behind it", x.live(0, OUT, 160), NONE);
        due("far behind it", x.live(0, OUT, MOST), NONE);
        x.merge();
        due("the last, built", x.live(1, IN, 159), 159);
        due("behind it, built", x.live(1, IN, 160), NONE);
        x.take(0);
        due("one less", x.live(0, OUT, 159), NONE);
        due("the last now", x.live(0, OUT, 158), 159);
    }

    private static void liveBelowZero() {
        OffsetRows x = built(2, 0, 1);
        due("live(0, out, 0)", x.live(0, OUT, 0), 0);
        for (int k : new int[] {-1, -2, LEAST}) {
            due("live(0, out, " + k + ")", x.live(0, OUT, k), OUTSIDE);
            due("live(1, in, " + k + ")", x.live(1, IN, k), OUTSIDE);
        }
    }

    private static void betweenNoneOneAndAll() {
        OffsetRows x = full(2, 0, 1);
        due("all", x.between(0, 1), 160);
        due("none back", x.between(1, 0), 0);
        due("none to itself", x.between(0, 0), 0);
        for (int arc = 0; arc < 159; arc++) {
            x.take(arc);
        }
        due("one", x.between(0, 1), 1);
        x.merge();
        due("one, built", x.between(0, 1), 1);
    }

    private static void nearItself() {
        OffsetRows x = new OffsetRows(24);
        due("without arcs", x.near(23, 23), 0);
        x.arc(23, 23);
        due("with one to itself", x.near(23, 23), 0);
    }

    private static void nearByOne() {
        OffsetRows x = waiting(2, 0, 1);
        due("one waits", x.near(0, 1), 1);
        due("not back", x.near(1, 0), NONE);
        x.take(0);
        due("it is taken", x.near(0, 1), NONE);
        x.untake(0);
        x.merge();
        due("it is built", x.near(0, 1), 1);
        x.take(0);
        x.merge();
        due("it is gone", x.near(0, 1), NONE);
    }

    private static void nearThroughAllNodes() {
        OffsetRows x = new OffsetRows(24);
        for (int node = 22; node >= 0; node--) {
            x.arc(node, node + 1);
        }
        due("all 24", x.near(0, 23), 23);
        x.arc(0, 22);
        due("the least of two", x.near(0, 23), 2);
    }

    private static void waysOfNone() {
        OffsetRows x = waiting(2, 0, 1, 0, 0);
        due("to itself", x.ways(0, 0, 0), 1);
        due("to itself without arcs", x.ways(1, 1, 0), 1);
        due("to another one", x.ways(0, 1, 0), 0);
    }

    private static void waysOfExactly() {
        OffsetRows x = built(3, 0, 1, 1, 2);
        due("1", x.ways(0, 2, 1), 0);
        due("2", x.ways(0, 2, 2), 1);
        due("3", x.ways(0, 2, 3), 0);
    }

    private static void waysUpTo60() {
        OffsetRows x = waiting(1, 0, 0, 0, 0);
        due("60", x.ways(0, 0, 60), 1L << 60);
        due("59", x.ways(0, 0, 59), 1L << 59);
        for (int n : new int[] {61, 62, MOST, -1, LEAST}) {
            due("ways(0, 0, " + n + ")", x.ways(0, 0, n), OUTSIDE);
        }
    }

    private static void waysGoRound() {
        OffsetRows x = new OffsetRows(1);
        for (int loops = 1; loops <= 160; loops++) {
            x.arc(0, 0);
            if (loops == 3 || loops == 4 || loops == 8 || loops == 63 || loops == 159) {
                for (int n = 20; n <= 60; n++) {
                    long want = BigInteger.valueOf(loops).pow(n).longValue();
                    due(loops + " to the power of " + n, x.ways(0, 0, n), want);
                }
            }
        }
        due("all bits are gone", x.ways(0, 0, 60), 0);
    }

    // Promises 17 to 19

    private static void eightIterators() {
        OffsetRows x = built(24, 23, 23);
        for (int iterator = 0; iterator < 8; iterator++) {
            due("open()", x.open(23, iterator % 2 == 1), iterator);
        }
        due("the ninth", x.open(0, OUT), ROOM);
        due("about(5)", x.about(5), 8);
        due("the last", x.next(7), 0);
        due("no ninth", x.next(8), UNKNOWN);
    }

    private static void closingOneMakesRoomForOne() {
        OffsetRows x = new OffsetRows(1);
        for (int iterator = 0; iterator < 8; iterator++) {
            x.open(0, OUT);
        }
        x.close(7);
        due("its number", x.open(0, OUT), 7);
        due("no more", x.open(0, OUT), ROOM);
    }

    private static void leastFreeNumber() {
        OffsetRows x = new OffsetRows(1);
        for (int iterator = 0; iterator < 8; iterator++) {
            x.open(0, OUT);
        }
        x.close(5);
        x.close(0);
        x.close(3);
        due("of 0, 3, 5", x.open(0, OUT), 0);
        due("of 3, 5", x.open(0, OUT), 3);
        x.close(1);
        due("of 1, 5", x.open(0, OUT), 1);
        due("of 5", x.open(0, OUT), 5);
    }

    private static void staleOnesAreOpen() {
        OffsetRows x = new OffsetRows(1);
        for (int iterator = 0; iterator < 8; iterator++) {
            x.open(0, OUT);
        }
        x.merge();
        due("about(5)", x.about(5), 8);
        due("the ninth", x.open(0, OUT), ROOM);
        x.close(4);
        due("its number", x.open(0, OUT), 4);
    }

    private static void walkOfNone() {
        OffsetRows x = built(2, 0, 0);
        x.open(1, OUT);
        dueNext(x, 0, NONE, NONE);
        due("none was told", x.close(0), 0);
    }

    private static void walkOfAll() {
        OffsetRows x = full(2, 0, 1);
        x.open(0, OUT);
        for (int arc = 0; arc < 160; arc++) {
            due("next(0)", x.next(0), arc);
        }
        due("none is left", x.next(0), NONE);
        due("close(0)", x.close(0), 160);
    }

    private static void walkOfAllBuilt() {
        OffsetRows x = full(2, 0, 1);
        x.merge();
        x.open(1, IN);
        for (int arc = 0; arc < 160; arc++) {
            due("next(0)", x.next(0), arc);
        }
        due("none is left", x.next(0), NONE);
        due("close(0)", x.close(0), 160);
    }

    private static void rowThenWhatWaits() {
        OffsetRows x = built(3, 0, 2, 0, 1);
        x.arc(0, 0);
        x.arc(1, 0);
        x.arc(0, 1);
        x.open(0, OUT);
        dueNext(x, 0, 1, 0, 2, 4, NONE);
    }

    private static void eachArcOnce() {
        OffsetRows x = built(2, 0, 1, 0, 1);
        x.open(0, OUT);
        dueNext(x, 0, 0);
        x.take(0);
        x.untake(0);
        dueNext(x, 0, 1, NONE);
        x.take(1);
        x.untake(1);
        dueNext(x, 0, NONE);
        due("close(0)", x.close(0), 2);
    }

    private static void asTheyAreLiveWhenItIsCalled() {
        OffsetRows x = built(2, 0, 0, 0, 1);
        x.arc(0, 0);
        x.open(0, OUT);
        x.take(0);
        x.take(2);
        dueNext(x, 0, 1, NONE);
        x.untake(2);
        dueNext(x, 0, 2, NONE);
        x.arc(0, 1);
        dueNext(x, 0, 3, NONE);
    }

    private static void behindTheOneToldLast() {
        OffsetRows x = built(2, 0, 0, 0, 1);
        x.arc(0, 0);
        x.arc(0, 0);
        x.take(0);
        x.take(2);
        x.open(0, OUT);
        dueNext(x, 0, 1);
        x.untake(0);
        dueNext(x, 0, 3);
        x.untake(2);
        dueNext(x, 0, NONE);
        x.open(0, OUT);
        dueNext(x, 1, 0, 1, 2, 3, NONE);
    }

    private static void noneNowMayBeOneLater() {
        OffsetRows x = new OffsetRows(2);
        x.open(1, IN);
        dueNext(x, 0, NONE);
        x.arc(0, 1);
        dueNext(x, 0, 0, NONE);
        x.arc(1, 0);
        dueNext(x, 0, NONE);
        x.arc(1, 1);
        dueNext(x, 0, 2, NONE);
        due("NONE is no arc that was told", x.close(0), 2);
    }

    private static void untakenBehindTheRowsEnd() {
        OffsetRows x = built(2, 0, 0, 0, 1);
        x.take(1);
        x.open(0, OUT);
        dueNext(x, 0, 0, NONE);
        x.untake(1);
        dueNext(x, 0, 1, NONE);
    }

    private static void dueAllStale(OffsetRows x) {
        for (int iterator = 0; iterator < 8; iterator++) {
            due("next(" + iterator + ")", x.next(iterator), STALE);
        }
        x.close(2);
        due("the next that is opened", x.open(0, OUT), 2);
        due("is not stale", x.next(2) == STALE ? 1 : 0, 0);
    }

    private static OffsetRows withEightOpen() {
        OffsetRows x = built(2, 0, 1);
        for (int iterator = 0; iterator < 8; iterator++) {
            x.open(iterator % 2, iterator < 4);
        }
        return x;
    }

    private static void mergeMakesAllStale() {
        OffsetRows x = withEightOpen();
        due("merge()", x.merge(), 0);
        dueAllStale(x);
    }

    private static void packMakesAllStale() {
        OffsetRows x = withEightOpen();
        due("pack()", x.pack(), 1);
        dueAllStale(x);
    }

    private static void loadMakesAllStale() {
        OffsetRows x = withEightOpen();
        due("load(0)", x.load(0), 0);
        dueAllStale(x);
    }

    private static void loadWithAFaultMakesNoneStale() {
        OffsetRows x = withEightOpen();
        due("an offset", x.load(1), 3);
        giveOffsets(x, 0, 0, 1);
        giveTargets(x, 2);
        due("a target", x.load(1), 100);
        due("outside", x.load(161), OUTSIDE);
        dueNext(x, 0, NONE);
        dueNext(x, 1, 0);
        dueNext(x, 4, 0);
    }

    private static void closeTellsHowMany() {
        OffsetRows x = built(2, 0, 0, 0, 1);
        for (int calls = 0; calls < 4; calls++) {
            due("open()", x.open(0, OUT), 0);
            for (int i = 0; i < calls; i++) {
                x.next(0);
            }
            due("close(0) behind " + calls, x.close(0), Math.min(calls, 2));
            due("close(0) again", x.close(0), UNKNOWN);
        }
    }

    private static void staleOnesAreClosedToo() {
        OffsetRows x = built(2, 0, 0, 0, 1);
        x.open(0, OUT);
        x.next(0);
        x.merge();
        x.next(0);
        due("close(0)", x.close(0), 1);
        due("it is closed", x.next(0), UNKNOWN);
        due("about(5)", x.about(5), 0);
    }

    private static void iteratorsThatThereAreNot() {
        OffsetRows x = built(1, 0, 0);
        x.open(0, OUT);
        for (int iterator : new int[] {-1, 1, 7, 8, LEAST, MOST}) {
            due("next(" + iterator + ")", x.next(iterator), UNKNOWN);
            due("close(" + iterator + ")", x.close(iterator), UNKNOWN);
        }
        dueNext(x, 0, 0);
    }

    // Promises 20 and 21

    private static void givenOffsets0To24() {
        for (int n : new int[] {1, 24}) {
            OffsetRows x = new OffsetRows(n);
            for (int k = 0; k <= 24; k++) {
                due("at first, " + k, x.give(OFFSETS, k, 100 + k), 0);
            }
            for (int k = 0; k <= 24; k++) {
                due("then, " + k, x.give(OFFSETS, k, 0), 100 + k);
            }
            due("25", x.give(OFFSETS, 25, 1), OUTSIDE);
            due("-1", x.give(OFFSETS, -1, 1), OUTSIDE);
        }
    }

    private static void givenTargets0To159() {
        OffsetRows x = new OffsetRows(1);
        for (int k = 0; k <= 159; k++) {
            due("at first, " + k, x.give(TARGETS, k, 1000 + k), 0);
        }
        for (int k = 0; k <= 159; k++) {
            due("then, " + k, x.give(TARGETS, k, 0), 1000 + k);
        }
        due("160", x.give(TARGETS, 160, 1), OUTSIDE);
        due("-1", x.give(TARGETS, -1, 1), OUTSIDE);
    }

    private static void givenRowsAreTwo() {
        OffsetRows x = new OffsetRows(1);
        x.give(OFFSETS, 3, 5);
        due("target 3", x.give(TARGETS, 3, 6), 0);
        due("offset 3", x.give(OFFSETS, 3, 0), 5);
        due("target 3 still", x.give(TARGETS, 3, 0), 6);
    }

    private static void anyNumberIsGiven() {
        OffsetRows x = new OffsetRows(1);
        for (int v : new int[] {LEAST, -1, 161, MOST}) {
            due("offset", x.give(OFFSETS, 24, v), 0);
            due("it stood there", x.give(OFFSETS, 24, 0), v);
            due("target", x.give(TARGETS, 159, v), 0);
            due("it stood there", x.give(TARGETS, 159, 0), v);
        }
    }

    private static void givenIsNoGraphYet() {
        OffsetRows x = waiting(2, 1, 1);
        giveOffsets(x, 0, 1, 1);
        dueAbout(x, 1, 0, 1, 1);
        due("load(1)", x.load(1), 0);
        giveOffsets(x, 9, 9, 9);
        giveTargets(x, 9);
        due("from", x.told(0, 0), 0);
        due("to", x.told(0, 1), 0);
        due("what is given stays through load", x.give(OFFSETS, 1, 0), 9);
    }

    private static void loadOfNone() {
        OffsetRows x = waiting(24, 0, 1, 2, 3);
        x.take(0);
        due("load(0)", x.load(0), 0);
        dueAbout(x, 0, 0, 0, 0);
        due("arc()", x.arc(0, 0), 0);
        due("told(0, 3)", x.told(0, 3), 0);
    }

    private static void loadOfOne() {
        OffsetRows x = new OffsetRows(3);
        giveOffsets(x, 0, 0, 1, 1);
        giveTargets(x, 2);
        due("load(1)", x.load(1), 0);
        int[] want = {1, 2, 1, 0, 0};
        for (int what = 0; what < 5; what++) {
            due("told(0, " + what + ")", x.told(0, what), want[what]);
        }
        dueOffsets(x, OUT, 0, 0, 1, 1);
        dueOffsets(x, IN, 0, 0, 0, 1);
    }

    private static void loadOfAll() {
        OffsetRows x = new OffsetRows(24);
        for (int node = 1; node <= 24; node++) {
            x.give(OFFSETS, node, node < 24 ? 80 : 160);
        }
        giveTargets(x, 23, 22);
        due("load(160)", x.load(160), 0);
        dueAbout(x, 160, 160, 0, 160);
        due("from of 79", x.told(79, 0), 0);
        due("from of 80", x.told(80, 0), 23);
        due("the last of node 0 but one", place(x, 0, OUT, 78), 1);
        due("the last of node 0", place(x, 0, OUT, 79), 0);
        due("the last of node 23", place(x, 23, OUT, 79), 159);
    }

    private static void loadSize() {
        OffsetRows x = new OffsetRows(1);
        due("load(0)", x.load(0), 0);
        due("load(160), judged", x.load(160), 2);
        for (int m : new int[] {-1, -2, 161, LEAST, MOST}) {
            x.give(OFFSETS, 1, m);
            due("load(" + m + ")", x.load(m), OUTSIDE);
        }
    }

    private static void loadWipesMarksAndWhatWaits() {
        OffsetRows x = built(2, 0, 1, 1, 0, 1, 1);
        x.take(0);
        x.take(1);
        x.merge();
        x.take(2);
        x.arc(0, 0);
        giveOffsets(x, 0, 1, 4);
        due("load(4)", x.load(4), 0);
        dueAbout(x, 4, 4, 0, 4);
        for (int arc = 0; arc < 4; arc++) {
            due("built", x.told(arc, 2), 1);
            due("taken", x.told(arc, 3), 0);
            due("gone", x.told(arc, 4), 0);
        }
    }

    private static void loadedRowsAreOrdered() {
        OffsetRows x = new OffsetRows(3);
        giveOffsets(x, 0, 3, 3, 5);
        giveTargets(x, 2, 0, 2, 1, 0);
        due("load(5)", x.load(5), 0);
        dueRow(x, 0, OUT, 1, 0, 2);
        dueRow(x, 1, OUT);
        dueRow(x, 2, OUT, 4, 3);
        dueRow(x, 0, IN, 1, 4);
    }

    private static void dueJudged(int nodes, int m, int want, int... offsets) {
        OffsetRows x = new OffsetRows(nodes);
        giveOffsets(x, offsets);
        due("load(" + m + ") of offsets " + Arrays.toString(offsets), x.load(m), want);
    }

    private static void offsetOf0Is0() {
        dueJudged(2, 4, 1, 1, 2, 4);
        dueJudged(2, 4, 1, -1, 2, 4);
        dueJudged(2, 4, 1, LEAST, 2, 4);
        dueJudged(2, 4, 1, MOST, 2, 4);
        dueJudged(2, 4, 0, 0, 2, 4);
        dueJudged(1, 0, 1, 1, 0);
    }

    private static void noOffsetBelowTheOneAhead() {
        dueJudged(3, 4, 3, 0, 2, 1, 4);
        dueJudged(3, 4, 0, 0, 2, 2, 4);
        dueJudged(3, 4, 2, 0, -1, 1, 4);
        dueJudged(3, 4, 2, 0, LEAST, 1, 4);
        dueJudged(3, 4, 4, 0, 2, 4, 3);
    }

    private static void noOffsetAboveM() {
        dueJudged(3, 4, 0, 0, 4, 4, 4);
        dueJudged(3, 4, 2, 0, 5, 5, 5);
        dueJudged(3, 4, 3, 0, 4, 5, 4);
        dueJudged(3, 4, 2, 0, MOST, MOST, 4);
        dueJudged(3, 0, 3, 0, 0, 1, 0);
    }

    private static void offsetOfNIsM() {
        dueJudged(3, 4, 4, 0, 2, 3, 3);
        dueJudged(3, 4, 4, 0, 2, 3, 5);
        dueJudged(3, 4, 0, 0, 2, 3, 4);
        dueJudged(1, 160, 0, 0, 160);
        dueJudged(1, 160, 2, 0, 159);
    }

    private static void firstOffsetThatIsNotRight() {
        dueJudged(3, 4, 1, 1, 9, -1, 0);
        dueJudged(3, 4, 2, 0, 9, -1, 0);
        dueJudged(3, 4, 3, 0, 1, -1, 0);
        dueJudged(3, 4, 4, 0, 1, 2, 0);
    }

    private static void offsetsBehindNAreNotJudged() {
        dueJudged(1, 1, 0, 0, 1, 99, -5);
        dueJudged(23, 0, 0, 0, 0, 0, 0, 0, 0, 0, 0, 0, 0, 0, 0, 0, 0, 0, 0, 0, 0, 0, 0, 0, 0, 0, 0, 7);
        dueJudged(24, 0, 25, 0, 0, 0, 0, 0, 0, 0, 0, 0, 0, 0, 0, 0, 0, 0, 0, 0, 0, 0, 0, 0, 0, 0, 0, 7);
    }

    private static void dueTargets(int nodes, int m, int want, int... targets) {
        OffsetRows x = new OffsetRows(nodes);
        x.give(OFFSETS, nodes, m);
        giveTargets(x, targets);
        due("load(" + m + ") of targets " + Arrays.toString(targets), x.load(m), want);
    }

    private static void targetsThatAreNoNodes() {
        dueTargets(3, 3, 0, 0, 1, 2);
        dueTargets(3, 3, 100, 3, 1, 2);
        dueTargets(3, 3, 101, 0, -1, 2);
        dueTargets(3, 3, 102, 0, 1, LEAST);
        dueTargets(3, 3, 102, 0, 1, MOST);
        dueTargets(24, 1, 0, 23);
        dueTargets(24, 1, 100, 24);
    }

    private static void firstTargetThatIsNoNode() {
        dueTargets(3, 4, 101, 0, 3, -1, 3);
        dueTargets(3, 4, 103, 0, 1, 2, 3);
    }

    private static void lastTarget() {
        OffsetRows x = new OffsetRows(1);
        x.give(OFFSETS, 1, 160);
        x.give(TARGETS, 159, 1);
        due("the last", x.load(160), 259);
        x.give(OFFSETS, 1, 159);
        due("it is not below m", x.load(159), 0);
    }

    private static void offsetsAreJudgedAheadOfTargets() {
        OffsetRows x = new OffsetRows(2);
        giveOffsets(x, 0, 1, 1);
        giveTargets(x, 9, 9);
        due("both are wrong", x.load(2), 3);
        giveOffsets(x, 0, 1, 2);
        due("only the targets", x.load(2), 100);
    }

    // Promise 22

    private static void aboutWhats() {
        OffsetRows x = new OffsetRows(24);
        int[] want = {24, 0, 0, 0, 0, 0};
        for (int what = 0; what < 6; what++) {
            due("about(" + what + ")", x.about(what), want[what]);
        }
        for (int what : new int[] {-1, 6, 7, LEAST, MOST}) {
            due("about(" + what + ")", x.about(what), OUTSIDE);
        }
    }

    private static void aboutCounts() {
        OffsetRows x = built(4, 0, 1, 1, 2, 2, 3, 3, 0);
        x.take(0);
        x.merge();
        x.take(1);
        x.arc(0, 0);
        x.arc(0, 0);
        x.take(5);
        dueAbout(x, 6, 3, 2, 3);
        due("about(0)", x.about(0), 4);
    }

    private static void aboutOfFull() {
        OffsetRows x = full(2, 0, 1);
        dueAbout(x, 160, 0, 160, 160);
        x.take(0);
        dueAbout(x, 160, 0, 160, 159);
        x.untake(0);
        x.merge();
        dueAbout(x, 160, 160, 0, 160);
        x.take(0);
        dueAbout(x, 160, 160, 0, 159);
        x.merge();
        dueAbout(x, 160, 159, 0, 159);
    }

    private static void goneIsTakenStill() {
        OffsetRows x = built(2, 0, 1);
        x.take(0);
        x.merge();
        due("BUILT", x.told(0, 2), 0);
        due("TAKEN", x.told(0, 3), 1);
        due("GONE", x.told(0, 4), 1);
        dueAbout(x, 1, 0, 0, 0);
        due("take", x.take(0), GONE);
    }

    private static void boundsAndNumbers() {
        holds("n NODES, 1 .. 24", BoundariesTest::nodesFrom1To24);
        holds("what is below counts as 1", BoundariesTest::fewerNodesCountAs1);
        holds("above as 24", BoundariesTest::moreNodesCountAs24);
        holds("no ARCS", BoundariesTest::newObjectHasNoArcs);
        holds("used for at most 512 calls", BoundariesTest::theLastCalls);
        holds("ARCS are numbered from 0 as they come", BoundariesTest::numbersFromZero);
        holds("160 at most", BoundariesTest::room160);
        holds("160 at most: take() only marks", BoundariesTest::takenOnesKeepTheirRoom);
        holds("GONE: their numbers stay", BoundariesTest::goneOnesKeepTheirNumbers);
        holds("since the numbers were turned last", BoundariesTest::packMakesRoomForTheGone);
        holds("since the numbers were turned last: all gone", BoundariesTest::packOfAllTakenMakesAllRoom);
        holds("160 at most: load()", BoundariesTest::loadLeavesTheRest);
        holds("several may lead the same way, also to the NODE itself", BoundariesTest::severalTheSameWay);
    }

    private static void theRows() {
        holds("OUT ROW: by the NODES TO which they lead, then by numbers", BoundariesTest::outRowByTargetsThenNumbers);
        holds("IN ROW: by the NODES FROM which they lead, then by numbers", BoundariesTest::inRowBySourcesThenNumbers);
        holds("THE ROWS are BUILT anew", BoundariesTest::laterOnesComeIntoTheirOrder);
        holds("both also those that are TAKEN", BoundariesTest::rowsKeepTheTaken);
        holds("the BUILT ARCS", BoundariesTest::rowsLackWhatWaits);
        holds("where the NODE's begins", BoundariesTest::offsetsOfEmptyRows);
        holds("where the NODE's begins: full", BoundariesTest::offsetsOfFullRows);
        holds("of N their end", BoundariesTest::offsetOfN);
        holds("The ARC at place k of a NODE's ROW", BoundariesTest::machineReadsARow);
        holds("IndexOutOfBoundsException: no such place in its ROW", BoundariesTest::noSuchPlace);
        holds("IndexOutOfBoundsException: there is no such NODE", BoundariesTest::noSuchNodeInRows);
    }

    private static void marksAndTurns() {
        holds("An ARC is TAKEN: 1; 0: it was", BoundariesTest::takeOnceAndAgain);
        holds("One that is TAKEN is so no more: 1; 0: it was not", BoundariesTest::untakeOnceAndAgain);
        holds("how many ARCS came into them: none, one", BoundariesTest::mergeOfNone);
        holds("how many ARCS came into them, or left them: all", BoundariesTest::mergeOfAll);
        holds("came into them, or left them, or wait no more", BoundariesTest::mergeCountsEachOnce);
        holds("or wait no more (they are GONE then)", BoundariesTest::takenWaitingOneIsGone);
        holds("merge() BUILDS all that are not TAKEN", BoundariesTest::untakenInTimeStays);
        holds("pack: how many there are: none, one", BoundariesTest::packOfNone);
        holds("pack: how many there are: all", BoundariesTest::packOfAll);
        holds("pack() merges, and then numbers", BoundariesTest::packMergesFirst);
        holds("anew from 0 on, in the order of their numbers", BoundariesTest::packKeepsTheOrderOfNumbers);
        holds("numbers all that are not GONE anew", BoundariesTest::oneGoneAndNumbersTurned);
        holds("the new number of an ARC; NONE: it had none", BoundariesTest::noNewNumberForTheGone);
        holds("UNKNOWN: also if there was no pack()", BoundariesTest::noPackNoTurnRow);
        holds("UNKNOWN: also if load() came behind it", BoundariesTest::loadEndsTheTurnRow);
        holds("THE TURN ROW of the latest pack()", BoundariesTest::latestPackCounts);
        holds("UNKNOWN: there was no such number then", BoundariesTest::numbersThatThereWereNot);
        holds("GONE: neither BUILT nor WAITS, TAKEN still", BoundariesTest::goneIsTakenStill);
    }

    private static void questions() {
        holds("told: what = 0 .. 4", BoundariesTest::toldWhats);
        holds("told: of an ARC", BoundariesTest::toldArcs);
        holds("How many LIVE ARCS a NODE has", BoundariesTest::degreesOfNoneOneAndAll);
        holds("also to the NODE itself: OUT or IN", BoundariesTest::loopsAreOutAndIn);
        holds("LIVE ARCS: as they stand there, behind them those that WAIT", BoundariesTest::liveInOrder);
        holds("The k-th of them, from 0 on; NONE", BoundariesTest::lastLiveAndBehindIt);
        holds("OUTSIDE: k is below 0", BoundariesTest::liveBelowZero);
        holds("How many LIVE ARCS lead from one NODE to another one", BoundariesTest::betweenNoneOneAndAll);
        holds("near: 0 to itself", BoundariesTest::nearItself);
        holds("near: NONE", BoundariesTest::nearByOne);
        holds("The least number of LIVE ARCS one behind the other", BoundariesTest::nearThroughAllNodes);
        holds("1 of none to itself", BoundariesTest::waysOfNone);
        holds("ways of exactly n LIVE ARCS", BoundariesTest::waysOfExactly);
        holds("OUTSIDE: n is not 0 .. 60", BoundariesTest::waysUpTo60);
        holds("64 bits, going round", BoundariesTest::waysGoRound);
        holds("about: what = 0 .. 5", BoundariesTest::aboutWhats);
        holds("BUILT ones (also TAKEN), those that WAIT (also TAKEN), LIVE ones", BoundariesTest::aboutCounts);
        holds("about: full", BoundariesTest::aboutOfFull);
    }

    private static void walks() {
        holds("ITERATORS, 8 at most open", BoundariesTest::eightIterators);
        holds("ROOM: 8 are open", BoundariesTest::closingOneMakesRoomForOne);
        holds("numbered from 0 by the least number that is free", BoundariesTest::leastFreeNumber);
        holds("8 at most open: STALE ones too", BoundariesTest::staleOnesAreOpen);
        holds("next: NONE: there is none", BoundariesTest::walkOfNone);
        holds("go along the LIVE ARCS of a NODE: all wait", BoundariesTest::walkOfAll);
        holds("go along the LIVE ARCS of a NODE: all built", BoundariesTest::walkOfAllBuilt);
        holds("by this order: THE ROW's, then those that wait", BoundariesTest::rowThenWhatWaits);
        holds("each ARC once", BoundariesTest::eachArcOnce);
        holds("as they are LIVE when it is called", BoundariesTest::asTheyAreLiveWhenItIsCalled);
        holds("that stands behind the one told last", BoundariesTest::behindTheOneToldLast);
        holds("NONE: there is none (now)", BoundariesTest::noneNowMayBeOneLater);
        holds("NONE: there is none (now): in THE ROW", BoundariesTest::untakenBehindTheRowsEnd);
        holds("merge() makes all that are open STALE", BoundariesTest::mergeMakesAllStale);
        holds("pack() makes all that are open STALE", BoundariesTest::packMakesAllStale);
        holds("load() makes all that are open STALE", BoundariesTest::loadMakesAllStale);
        holds("load() without a fault", BoundariesTest::loadWithAFaultMakesNoneStale);
        holds("It is closed: how many ARCS it told", BoundariesTest::closeTellsHowMany);
        holds("It is closed: a STALE one", BoundariesTest::staleOnesAreClosedToo);
        holds("UNKNOWN: no such one is open", BoundariesTest::iteratorsThatThereAreNot);
    }

    private static void givenRows() {
        holds("GIVEN OFFSETS, k 0 .. 24, all 0 at first", BoundariesTest::givenOffsets0To24);
        holds("GIVEN TARGETS, k 0 .. 159, all 0 at first", BoundariesTest::givenTargets0To159);
        holds("GIVEN OFFSETS (targets = false), GIVEN TARGETS", BoundariesTest::givenRowsAreTwo);
        holds("v comes to place k: what stood there", BoundariesTest::anyNumberIsGiven);
        holds("The graph becomes what is GIVEN", BoundariesTest::givenIsNoGraphYet);
        holds("m ARCS: none", BoundariesTest::loadOfNone);
        holds("m ARCS: one", BoundariesTest::loadOfOne);
        holds("m ARCS: 160", BoundariesTest::loadOfAll);
        holds("OUTSIDE: m is not 0 .. 160", BoundariesTest::loadSize);
        holds("all BUILT", BoundariesTest::loadWipesMarksAndWhatWaits);
        holds("numbered by places of GIVEN TARGETS", BoundariesTest::loadedRowsAreOrdered);
        holds("that of 0 is 0", BoundariesTest::offsetOf0Is0);
        holds("none is below the one ahead", BoundariesTest::noOffsetBelowTheOneAhead);
        holds("none above m", BoundariesTest::noOffsetAboveM);
        holds("that of N is m", BoundariesTest::offsetOfNIsM);
        holds("is the first that is not as it must be", BoundariesTest::firstOffsetThatIsNotRight);
        holds("the GIVEN OFFSET k (0 .. N)", BoundariesTest::offsetsBehindNAreNotJudged);
        holds("GIVEN TARGET that is no NODE", BoundariesTest::targetsThatAreNoNodes);
        holds("is the first that is no NODE", BoundariesTest::firstTargetThatIsNoNode);
        holds("the GIVEN TARGET k, below m", BoundariesTest::lastTarget);
        holds("100 and k: of these all are right", BoundariesTest::offsetsAreJudgedAheadOfTargets);
    }

    public static void main(String[] args) {
        boundsAndNumbers();
        theRows();
        marksAndTurns();
        questions();
        walks();
        givenRows();
        System.out.println(wrong == 0 ? sentences + " sentences hold" : wrong + " answers are not as due");
        if (wrong != 0) {
            System.exit(1);
        }
    }
}
