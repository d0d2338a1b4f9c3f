/** Promise 31, sentence by sentence: undo, from no edit to a full history; and an object's 512 calls. */
final class HistoryBoundaries {
    private HistoryBoundaries() {
    }

    static void run() {
        Sentence.promise(31, "Undoes the latest edit that has not been undone: operation, braid and weights are as they were before it.",
            HistoryBoundaries::undoesLatest);
        Sentence.promise(31, "Returns the number of edits that can still be undone", HistoryBoundaries::returnsNumber);
        Sentence.promise(31, "NOT_FOUND if there is none.", HistoryBoundaries::findsNone);
        Sentence.preface("An object is used for at most 512 calls after it has been made; what later calls answer is free.",
            HistoryBoundaries::lastCalls);
    }

    private static void lastCalls() {
        // Nothing but edits.
        Bench.after("setModulus(12); " + "setWeight(0, 0, 5); setWeight(0, 0, 7); ".repeat(252) + "undo() = 4; weight(0, 0) = 5; undo() = 3; undo() = 2; "
            + "undo() = 1; undo() = 0; undo() = NOT_FOUND");
        // Edits and undo by turns.
        Bench.after("loadConjugation() = 6; undo() = 0; ".repeat(255) + "undo() = NOT_FOUND; size() = 3");
        // The dearest calls on the largest braid.
        Bench.after("loadConjugation(); setStrands(4); " + "appendCrossing(1); appendCrossing(-2); appendCrossing(3); appendCrossing(-3); ".repeat(3)
            + "coloringCount(); stateSum(0); innerGroupOrder() = 6; automorphismCount() = 6; ".repeat(124) + "crossingCount() = 12; size() = 6");
    }

    private static void undoesLatest() {
        // Five edits of three kinds, taken back one after another.
        Bench.after("loadCyclicRack(4); setModulus(12); setWeight(3, 3, 11); setStrands(4); appendCrossing(-3); "
            + "undo() = 4; crossingCount() = 0; undo() = 3; crossingCount() = 3; weight(3, 3) = 11; undo() = 2; weight(3, 3) = 0; stateSum(11) = 0; "
            + "undo() = 1; stateSum(3) = INVALID_ARGUMENT; size() = 4; undo() = 0; size() = 3; kind() = 2; undo() = NOT_FOUND");
        // An undone edit is not undone again: the one before it is.
        Bench.after("setWeight(0, 0, 1); setWeight(0, 0, 2); undo() = 1; weight(0, 0) = 1; setWeight(1, 1, 2); undo() = 1; weight(1, 1) = 0; "
            + "weight(0, 0) = 1; undo() = 0; weight(0, 0) = 0; undo() = NOT_FOUND");
        // A smaller operation's undoing brings all entries and weights of the larger one back.
        Bench.after("loadConjugation(); setModulus(12); setWeight(5, 5, 11); loadTrivial(1); undo() = 3; size() = 6; weight(5, 5) = 11; "
            + "entry(5, 1) = 2; quotient(1, 3) = 5; innerGroupOrder() = 6");
        // A full braid's crossings come back from an empty one.
        Bench.after(Expect.FULL_BRAID + "setStrands(4); undo() = 4; crossingCount() = 12; appendCrossing(3) = INVALID_ARGUMENT; "
            + "appendCrossing(2) = LIMIT_REACHED");
        // Each of the 12 crossings comes back, the first and the last one too, where others have stood in its place.
        String others = Bench.braidCalls(4, 3, 3, 3, 3, 3, 3, 3, 3, 3, 3, 3, 3);
        Bench.after("removeCrossing(); removeCrossing(); setStrands(4); appendCrossing(-3); undo() = 3; undo() = 2; removeCrossing() = 1; "
            + "removeCrossing() = NOT_FOUND");
        Bench.after(others + "setStrands(4); appendCrossing(1); undo() = 4; undo() = 3; " + "removeCrossing() = 3; ".repeat(12) + "removeCrossing() = NOT_FOUND");
        Bench.after(others + "removeCrossing(); appendCrossing(1); undo() = 4; undo() = 3; " + "removeCrossing() = 3; ".repeat(12) + "removeCrossing() = NOT_FOUND");
        // What is undone may have made the operation not invertible, or mended it.
        Bench.after("setEntry(0, 0, 1); setEntry(2, 0, 0); coloringCount() = 5; undo() = 1; coloringCount() = INVALID_STATE; undo() = 0; coloringCount() = 9");
    }

    private static void returnsNumber() {
        for (int edits = 1; edits <= 14; edits++) {
            Bench bench = Bench.after("setWeight(0, 0, 1); ".repeat(edits));
            for (int left = Math.min(edits, 5) - 1; left >= 0; left--) {
                bench.due("undo()", left);
            }
            bench.run("undo() = NOT_FOUND; undo() = NOT_FOUND; setWeight(0, 0, 2); undo() = 0");
        }
        // Undone edits leave room for new ones, up to five.
        Bench.after("setWeight(0, 0, 1); ".repeat(7) + "undo() = 4; undo() = 3; setWeight(0, 0, 2); undo() = 3; setWeight(0, 0, 2); setWeight(0, 0, 2); "
            + "undo() = 4; setWeight(0, 0, 2); setWeight(0, 0, 2); undo() = 4");
    }

    private static void findsNone() {
        Expect.refused(Expect.NEW, "undo()", Check.NONE);
        Expect.refused("loadConjugation(); undo(); ", "undo()", Check.NONE);
        // All five of a full history are undone; the older edits stay.
        Expect.refused(Expect.FULL + "undo(); undo(); undo(); undo(); undo(); ", "undo()", Check.NONE);
        Bench.after(Expect.FULL + "undo() = 4; undo() = 3; undo() = 2; undo() = 1; undo() = 0; undo() = NOT_FOUND; size() = 5; crossingCount() = 1; "
            + "setModulus(2) = 7");
        // A refused call is no edit that could be undone.
        Bench.after("loadTrivial(7) = INVALID_ARGUMENT; setModulus(1) = INVALID_ARGUMENT; appendCrossing(0) = INVALID_ARGUMENT; undo() = NOT_FOUND");
        Bench.after("setStrands(3); undo() = 0; undo() = NOT_FOUND; crossingCount() = 3; undo() = NOT_FOUND");
    }
}
