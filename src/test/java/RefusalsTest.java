import java.util.ArrayList;
import java.util.List;

/**
 * "Refusals, the first of these that fits: UNKNOWN, OUTSIDE, STALE, GONE, ROOM. What is refused changes nothing."
 * Each refusal by itself, then with a second one that fits as well; and each is made on one of two objects that had the
 * same calls, which must then answer alike whatever they are asked.
 */
public final class RefusalsTest {
    private static final int NONE = -1, UNKNOWN = -2, OUTSIDE = -3, STALE = -4, GONE = -5, ROOM = -6;
    private static final int THROWN = -1000;
    private static final int LEAST = Integer.MIN_VALUE, MOST = Integer.MAX_VALUE;
    private static final boolean OUT = false, IN = true;
    private static final boolean OFFSETS = false, TARGETS = true;
    private static final int NODES = 3;

    private interface Call {
        long on(OffsetRows x);
    }

    private interface Maker {
        OffsetRows make();
    }

    private static int refusals = 0;
    private static int wrong = 0;

    private static void fault(String text) {
        wrong++;
        System.out.println(text);
    }

    private static int place(OffsetRows x, int node, boolean ofIn, int k) {
        try {
            return ofIn ? x.in(node, k) : x.out(node, k);
        } catch (IndexOutOfBoundsException e) {
            return e.getClass() == IndexOutOfBoundsException.class ? THROWN : THROWN - 1;
        }
    }

    /** One arc of each kind, iterators on their way, stale and closed, a turn row, and given rows with a wrong target. */
    private static OffsetRows worked() {
        OffsetRows x = new OffsetRows(NODES);
        x.arc(0, 1);
        x.arc(1, 2);
        x.arc(0, 0);
        x.arc(2, 1);
        x.take(1);
        x.pack();
        x.arc(0, 2);
        x.take(2);
        x.open(0, OUT);
        x.next(0);
        x.merge();
        x.arc(1, 1);
        x.arc(0, 2);
        x.take(5);
        x.take(0);
        x.open(0, OUT);
        x.open(1, IN);
        x.open(2, IN);
        x.next(1);
        x.close(3);
        x.give(OFFSETS, 1, 1);
        x.give(OFFSETS, 2, 2);
        x.give(OFFSETS, 3, 2);
        x.give(TARGETS, 0, 2);
        x.give(TARGETS, 1, 3);
        return x;
    }

    private static OffsetRows fullOfArcs() {
        OffsetRows x = new OffsetRows(NODES);
        for (int arc = 0; arc < 80; arc++) {
            x.arc(arc % NODES, 1);
        }
        x.take(1);
        x.merge();
        for (int arc = 80; arc < 160; arc++) {
            x.arc(arc % NODES, 2);
        }
        x.open(0, OUT);
        x.next(0);
        return x;
    }

    private static OffsetRows fullOfIterators() {
        OffsetRows x = new OffsetRows(NODES);
        x.arc(0, 1);
        x.arc(0, 2);
        for (int iterator = 0; iterator < 4; iterator++) {
            x.open(0, OUT);
        }
        x.next(2);
        x.merge();
        for (int iterator = 4; iterator < 8; iterator++) {
            x.open(0, OUT);
        }
        x.next(6);
        return x;
    }

    private static void tellCounts(OffsetRows x, List<Long> told) {
        for (int what = 0; what < 6; what++) {
            told.add((long) x.about(what));
        }
        for (int node = 0; node <= NODES; node++) {
            told.add((long) x.offset(node, OUT));
            told.add((long) x.offset(node, IN));
        }
    }

    private static void tellArcs(OffsetRows x, List<Long> told) {
        for (int arc = 0; arc < 7; arc++) {
            for (int what = 0; what < 5; what++) {
                told.add((long) x.told(arc, what));
            }
            told.add((long) x.turned(arc));
        }
    }

    private static void tellRows(OffsetRows x, List<Long> told) {
        for (int node = 0; node < NODES; node++) {
            told.add((long) x.degree(node, OUT));
            told.add((long) x.degree(node, IN));
            for (int k = 0; k < 4; k++) {
                told.add((long) place(x, node, OUT, k));
                told.add((long) place(x, node, IN, k));
                told.add((long) x.live(node, OUT, k));
                told.add((long) x.live(node, IN, k));
            }
        }
    }

    private static void tellWays(OffsetRows x, List<Long> told) {
        for (int from = 0; from < NODES; from++) {
            for (int to = 0; to < NODES; to++) {
                told.add((long) x.between(from, to));
                told.add((long) x.near(from, to));
                told.add(x.ways(from, to, 3));
            }
        }
    }

    private static void tellWalks(OffsetRows x, List<Long> told) {
        for (int iterator = 0; iterator < 8; iterator++) {
            told.add((long) x.next(iterator));
            told.add((long) x.next(iterator));
            told.add((long) x.close(iterator));
        }
        told.add((long) x.open(1, IN));
        told.add((long) x.next(0));
    }

    private static void tellTurns(OffsetRows x, List<Long> told) {
        told.add((long) x.arc(2, 2));
        told.add((long) x.merge());
        told.add((long) x.pack());
        told.add((long) x.turned(5));
        told.add((long) x.arc(2, 2));
    }

    private static void tellGiven(OffsetRows x, List<Long> told) {
        told.add((long) x.give(TARGETS, 1, 0));
        told.add((long) x.load(2));
        told.add((long) x.told(1, 0));
        told.add((long) x.about(1));
        for (int k = 0; k <= 24; k++) {
            told.add((long) x.give(OFFSETS, k, 0));
        }
        for (int k : new int[] {0, 1, 2, 24, 25, 158, 159}) {
            told.add((long) x.give(TARGETS, k, 0));
        }
    }

    /** All that can be asked, what changes the object last; few enough calls to stay below the document's 512. */
    private static List<Long> allAnswers(OffsetRows x) {
        List<Long> told = new ArrayList<>();
        tellCounts(x, told);
        tellArcs(x, told);
        tellRows(x, told);
        tellWays(x, told);
        tellWalks(x, told);
        tellTurns(x, told);
        tellGiven(x, told);
        return told;
    }

    private static void refused(String what, Maker maker, Call call, long want) {
        refusals++;
        OffsetRows asked = maker.make();
        long got = call.on(asked);
        if (got != want) {
            fault(what + " answered " + got + ", due is " + want);
        }
        List<Long> after = allAnswers(asked);
        List<Long> without = allAnswers(maker.make());
        for (int i = 0; i < without.size(); i++) {
            if (!after.get(i).equals(without.get(i))) {
                fault(what + " changed the object: question " + i + " is answered " + after.get(i) + ", not "
                    + without.get(i));
                return;
            }
        }
    }

    private static void unknownNodes() {
        for (int node : new int[] {-1, NODES, NODES + 1, 24, LEAST, MOST}) {
            refused("arc from " + node, RefusalsTest::worked, x -> x.arc(node, 0), UNKNOWN);
            refused("arc to " + node, RefusalsTest::worked, x -> x.arc(0, node), UNKNOWN);
            refused("degree, out of " + node, RefusalsTest::worked, x -> x.degree(node, OUT), UNKNOWN);
            refused("degree, into " + node, RefusalsTest::worked, x -> x.degree(node, IN), UNKNOWN);
            refused("live, out of " + node, RefusalsTest::worked, x -> x.live(node, OUT, 0), UNKNOWN);
            refused("live, into " + node, RefusalsTest::worked, x -> x.live(node, IN, 0), UNKNOWN);
            refused("between from " + node, RefusalsTest::worked, x -> x.between(node, 0), UNKNOWN);
            refused("between to " + node, RefusalsTest::worked, x -> x.between(0, node), UNKNOWN);
            refused("near from " + node, RefusalsTest::worked, x -> x.near(node, 0), UNKNOWN);
            refused("near to " + node, RefusalsTest::worked, x -> x.near(0, node), UNKNOWN);
            refused("near from and to " + node, RefusalsTest::worked, x -> x.near(node, node), UNKNOWN);
            refused("ways from " + node, RefusalsTest::worked, x -> x.ways(node, 0, 2), UNKNOWN);
            refused("ways to " + node, RefusalsTest::worked, x -> x.ways(0, node, 2), UNKNOWN);
            refused("ways of none from and to " + node, RefusalsTest::worked, x -> x.ways(node, node, 0), UNKNOWN);
            refused("open, out of " + node, RefusalsTest::worked, x -> x.open(node, OUT), UNKNOWN);
            refused("open, into " + node, RefusalsTest::worked, x -> x.open(node, IN), UNKNOWN);
        }
        // Of the OFFSETS that of N is known, and the first that is not stands behind it.
        for (int node : new int[] {-1, NODES + 1, 24, LEAST, MOST}) {
            refused("offset, out of " + node, RefusalsTest::worked, x -> x.offset(node, OUT), UNKNOWN);
            refused("offset, into " + node, RefusalsTest::worked, x -> x.offset(node, IN), UNKNOWN);
        }
    }

    private static void unknownArcs() {
        for (int arc : new int[] {-1, 6, 7, 159, 160, LEAST, MOST}) {
            refused("take " + arc, RefusalsTest::worked, x -> x.take(arc), UNKNOWN);
            refused("untake " + arc, RefusalsTest::worked, x -> x.untake(arc), UNKNOWN);
            refused("told of " + arc, RefusalsTest::worked, x -> x.told(arc, 0), UNKNOWN);
        }
        for (int old : new int[] {-1, 4, 5, 159, 160, LEAST, MOST}) {
            refused("turned " + old, RefusalsTest::worked, x -> x.turned(old), UNKNOWN);
        }
    }

    private static void unknownIterators() {
        for (int iterator : new int[] {-1, 3, 4, 7, 8, LEAST, MOST}) {
            refused("next of " + iterator, RefusalsTest::worked, x -> x.next(iterator), UNKNOWN);
            refused("close of " + iterator, RefusalsTest::worked, x -> x.close(iterator), UNKNOWN);
        }
    }

    private static void thrown() {
        for (boolean ofIn : new boolean[] {OUT, IN}) {
            String row = ofIn ? "in of " : "out of ";
            for (int node : new int[] {-1, NODES, 24, LEAST, MOST}) {
                refused(row + node, RefusalsTest::worked, x -> place(x, node, ofIn, 0), THROWN);
                refused(row + node + ", place -1", RefusalsTest::worked, x -> place(x, node, ofIn, -1), THROWN);
            }
            for (int k : new int[] {-1, 3, 160, LEAST, MOST}) {
                refused(row + "0, place " + k, RefusalsTest::worked, x -> place(x, 0, ofIn, k), THROWN);
            }
        }
    }

    private static void outside() {
        for (int what : new int[] {-1, 5, 6, LEAST, MOST}) {
            refused("told, what = " + what, RefusalsTest::worked, x -> x.told(0, what), OUTSIDE);
            refused("told of a gone one, what = " + what, RefusalsTest::worked, x -> x.told(2, what), OUTSIDE);
        }
        for (int k : new int[] {-1, -2, LEAST}) {
            refused("live, out, k = " + k, RefusalsTest::worked, x -> x.live(0, OUT, k), OUTSIDE);
            refused("live, in, k = " + k, RefusalsTest::worked, x -> x.live(0, IN, k), OUTSIDE);
        }
        for (int n : new int[] {-1, 61, 62, LEAST, MOST}) {
            refused("ways, n = " + n, RefusalsTest::worked, x -> x.ways(0, 1, n), OUTSIDE);
        }
        for (int what : new int[] {-1, 6, 7, LEAST, MOST}) {
            refused("about, what = " + what, RefusalsTest::worked, x -> x.about(what), OUTSIDE);
        }
    }

    private static void outsideOfGiven() {
        for (int k : new int[] {-1, 25, 26, 159, LEAST, MOST}) {
            refused("give offset " + k, RefusalsTest::worked, x -> x.give(OFFSETS, k, 5), OUTSIDE);
        }
        for (int k : new int[] {-1, 160, 161, LEAST, MOST}) {
            refused("give target " + k, RefusalsTest::worked, x -> x.give(TARGETS, k, 5), OUTSIDE);
        }
        for (int m : new int[] {-1, 161, 162, LEAST, MOST}) {
            refused("load " + m, RefusalsTest::worked, x -> x.load(m), OUTSIDE);
        }
    }

    private static void judged() {
        refused("load with a wrong offset of N", RefusalsTest::worked, x -> x.load(3), 1 + NODES);
        refused("load with an offset above m", RefusalsTest::worked, x -> x.load(1), 1 + 2);
        refused("load with a wrong target", RefusalsTest::worked, x -> x.load(2), 100 + 1);
    }

    private static void staleGoneRoom() {
        refused("next of a stale one", RefusalsTest::worked, x -> x.next(0), STALE);
        refused("take of a gone one, which is taken still", RefusalsTest::worked, x -> x.take(2), GONE);
        refused("untake of a gone one", RefusalsTest::worked, x -> x.untake(2), GONE);
        refused("arc number 160", RefusalsTest::fullOfArcs, x -> x.arc(0, 0), ROOM);
        refused("the ninth iterator", RefusalsTest::fullOfIterators, x -> x.open(0, OUT), ROOM);
        refused("the ninth iterator, in", RefusalsTest::fullOfIterators, x -> x.open(2, IN), ROOM);
    }

    private static void unknownComesAheadOfOutside() {
        for (int what : new int[] {-1, 5}) {
            refused("told(6, " + what + ")", RefusalsTest::worked, x -> x.told(6, what), UNKNOWN);
            refused("told(-1, " + what + ")", RefusalsTest::worked, x -> x.told(-1, what), UNKNOWN);
        }
        for (int node : new int[] {-1, NODES}) {
            refused("live(" + node + ", -1)", RefusalsTest::worked, x -> x.live(node, OUT, -1), UNKNOWN);
            for (int n : new int[] {-1, 61}) {
                refused("ways(" + node + ", 0, " + n + ")", RefusalsTest::worked, x -> x.ways(node, 0, n), UNKNOWN);
                refused("ways(0, " + node + ", " + n + ")", RefusalsTest::worked, x -> x.ways(0, node, n), UNKNOWN);
            }
        }
    }

    private static void unknownComesAheadOfRoom() {
        for (int node : new int[] {-1, NODES}) {
            refused("full, arc from " + node, RefusalsTest::fullOfArcs, x -> x.arc(node, 0), UNKNOWN);
            refused("full, arc to " + node, RefusalsTest::fullOfArcs, x -> x.arc(0, node), UNKNOWN);
            refused("full, open at " + node, RefusalsTest::fullOfIterators, x -> x.open(node, OUT), UNKNOWN);
        }
    }

    private static OffsetRows withStaleOneClosed() {
        OffsetRows x = worked();
        x.close(0);
        return x;
    }

    private static void unknownComesAheadOfStale() {
        refused("next of one that was stale", RefusalsTest::withStaleOneClosed, x -> x.next(0), UNKNOWN);
        refused("close of one that was stale", RefusalsTest::withStaleOneClosed, x -> x.close(0), UNKNOWN);
    }

    private static OffsetRows withGoneOnesTurned() {
        OffsetRows x = worked();
        x.pack();
        return x;
    }

    /** 0, 2 and 5 left: three numbers stay, and what was gone by number 5 is no more. */
    private static void unknownComesAheadOfGone() {
        refused("take of one that was gone", RefusalsTest::withGoneOnesTurned, x -> x.take(5), UNKNOWN);
        refused("untake of one that was gone", RefusalsTest::withGoneOnesTurned, x -> x.untake(5), UNKNOWN);
        refused("told of one that was gone", RefusalsTest::withGoneOnesTurned, x -> x.told(3, 4), UNKNOWN);
    }

    private static OffsetRows withAllGivenWrong() {
        OffsetRows x = worked();
        x.give(OFFSETS, 0, 7);
        return x;
    }

    private static void outsideComesAheadOfFaults() {
        refused("load(161) of wrong rows", RefusalsTest::withAllGivenWrong, x -> x.load(161), OUTSIDE);
        refused("load(-1) of wrong rows", RefusalsTest::withAllGivenWrong, x -> x.load(-1), OUTSIDE);
        refused("load(2) of wrong rows", RefusalsTest::withAllGivenWrong, x -> x.load(2), 1);
    }

    private static OffsetRows withWalkEndedAndStale() {
        OffsetRows x = worked();
        x.open(2, OUT);
        x.next(3);
        x.merge();
        return x;
    }

    private static void staleComesAheadOfNone() {
        refused("next of one that was at its end", RefusalsTest::withWalkEndedAndStale, x -> x.next(3), STALE);
    }

    /** Questions are refused nothing here, and they too must leave the object as it was. */
    private static void questionsChangeNothing() {
        refused("turned", RefusalsTest::worked, x -> x.turned(1), NONE);
        refused("out", RefusalsTest::worked, x -> place(x, 0, OUT, 1), 0);
        refused("in", RefusalsTest::worked, x -> place(x, 0, IN, 0), 1);
        refused("offset", RefusalsTest::worked, x -> x.offset(NODES, OUT), 3);
        refused("told", RefusalsTest::worked, x -> x.told(3, 1), 2);
        refused("degree", RefusalsTest::worked, x -> x.degree(0, OUT), 2);
        refused("live", RefusalsTest::worked, x -> x.live(0, OUT, 1), 3);
        refused("live, behind the last", RefusalsTest::worked, x -> x.live(0, OUT, 2), NONE);
        refused("between", RefusalsTest::worked, x -> x.between(0, 2), 1);
        refused("near", RefusalsTest::worked, x -> x.near(0, 2), 1);
        refused("ways", RefusalsTest::worked, x -> x.ways(0, 2, 60), 1);
        refused("about", RefusalsTest::worked, x -> x.about(4), 3);
    }

    public static void main(String[] args) {
        unknownNodes();
        unknownArcs();
        unknownIterators();
        thrown();
        outside();
        outsideOfGiven();
        judged();
        staleGoneRoom();
        unknownComesAheadOfOutside();
        unknownComesAheadOfRoom();
        unknownComesAheadOfStale();
        unknownComesAheadOfGone();
        outsideComesAheadOfFaults();
        staleComesAheadOfNone();
        questionsChangeNothing();
        System.out.println(wrong == 0 ? refusals + " calls answer as due and change nothing" : wrong + " faults");
        if (wrong != 0) {
            System.exit(1);
        }
    }
}
