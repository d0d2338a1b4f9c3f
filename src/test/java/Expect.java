import java.util.stream.IntStream;

/** What several promises ask for alike: refused calls, edits, and the ends of a range. */
final class Expect {
    /** A new object: no edit can be undone. */
    static final String NEW = "";
    /** Nine edits and one undone: four can be undone. Size 5, modulus 7, 3 strands, crossings of both signs. */
    static final String BUSY = "loadAlexander(5, 2); setModulus(7); setStrands(3); appendCrossing(1); appendCrossing(-2); "
        + "appendCrossing(1); appendCrossing(2); setWeight(1, 3, 6); setWeight(4, 0, 2); undo(); ";
    /** The same with a full history: five edits can be undone. */
    static final String FULL = BUSY + "setWeight(2, 2, 5); ";
    /** Not invertible: the column of 4 holds 0 twice. The history is full. */
    static final String BROKEN = BUSY + "setEntry(0, 4, 0); ";
    /** All 12 crossings, of both signs; the history is full. */
    static final String FULL_BRAID = "loadAlexander(5, 2); setWeight(0, 1, 1); setStrands(3); "
        + "appendCrossing(1); appendCrossing(-2); appendCrossing(2); ".repeat(4);
    /** No crossing; three edits can be undone. */
    static final String EMPTY_BRAID = "setWeight(0, 1, 1); appendCrossing(-1); setStrands(4); ";

    private static final String[] STARTS = {NEW, BUSY, FULL, BROKEN, FULL_BRAID, EMPTY_BRAID};
    private static final int[] UNDOABLE = {0, 4, 5, 5, 5, 3};

    private Expect() {
    }

    /** The call answers the error, and afterwards the object is in nothing different from one without the call. */
    static void refused(String run, String call, int error) {
        Bench.after(run).due(call, error);
        boolean same = Inspection.whole(run, call).equals(Inspection.whole(run));
        Check.holds("after " + run + "the refused " + call + " changes nothing and is no edit", same);
    }

    static void refusedArgument(String run, String call) {
        refused(run, call, Check.BAD_ARGUMENT);
    }

    /** Refused with INVALID_ARGUMENT in every state. */
    static void refusedAlways(String call) {
        for (String start : STARTS) {
            refusedArgument(start, call);
        }
    }

    /** The call is an edit from each state in which it is not refused with the given error. */
    static void edit(String call, int refusal) {
        int taken = 0;
        for (int i = 0; i < STARTS.length; i++) {
            if (Bench.after(STARTS[i]).ask(call) != refusal) {
                editAfter(STARTS[i], UNDOABLE[i], call);
                taken++;
            }
        }
        Check.holds(call + " is taken in most states", taken >= 4);
    }

    static void edit(String call) {
        edit(call, 0x7fffffff);
    }

    /** One edit more can be undone, five at most; undoing it gives the former state back. */
    static void editAfter(String run, int undoable, String call) {
        Bench bench = Bench.after(run).run(call);
        bench.due("undo()", Math.min(undoable + 1, Inspection.MOST_UNDO) - 1);
        boolean back = Inspection.state(run + call + "; undo(); ").equals(Inspection.state(run));
        Check.holds("after " + run + "undo() takes " + call + " back", back);
        for (int left = Math.min(undoable + 1, Inspection.MOST_UNDO) - 2; left >= 0; left--) {
            bench.due("undo()", left);
        }
        bench.due("undo()", Check.NONE);
    }

    /** A call that just returns a value of the present state, or an error, changes nothing and is no edit. */
    static void readsOnly(String call) {
        for (int i = 0; i < STARTS.length; i++) {
            boolean same = Inspection.whole(STARTS[i], call).equals(Inspection.whole(STARTS[i]));
            Check.holds("after " + STARTS[i] + call + " changes nothing and is no edit", same);
        }
        Bench bench = new Bench();
        bench.ask(call);
        bench.due("undo()", Check.NONE);
    }

    /** Values outside the range: next to it, at the ends of int, its negatives, and what narrower numbers confuse. */
    static int[] outside(int low, int high) {
        int[] all = {
            Integer.MIN_VALUE, Integer.MIN_VALUE + 1, Integer.MIN_VALUE + high, -65536 + high, -256 + high, -high, -high - 1,
            low - 1, high + 1, high + 2, 256 + low, 65536 + low, 1 << 30, Integer.MAX_VALUE - 1, Integer.MAX_VALUE,
        };
        return IntStream.of(all).filter(value -> value < low || value > high).distinct().toArray();
    }

    /** The call's %s is an element: for each size the least and the greatest are taken, others are refused. */
    static void elementArgument(String call) {
        for (int size = 1; size <= 6; size++) {
            String load = "loadTrivial(" + size + "); ";
            for (int element = 0; element < size; element++) {
                Bench.after(load).run(call.formatted(element));
            }
            for (int wrong : outside(0, size - 1)) {
                refusedArgument(load, call.formatted(wrong));
            }
        }
    }

    /** The call's %s is from 0 to the modulus - 1. */
    static void weightArgument(String call) {
        for (int modulus = 2; modulus <= 12; modulus++) {
            String set = "setModulus(" + modulus + "); ";
            for (int weight = 0; weight < modulus; weight++) {
                Bench.after(set).run(call.formatted(weight));
            }
            for (int wrong : outside(0, modulus - 1)) {
                refusedArgument(set, call.formatted(wrong));
            }
        }
    }
}
