import java.util.ArrayList;
import java.util.List;

/** Promise 31: undo; that a refused call changes nothing and is no edit; that the last 5 edits can be undone. */
public final class HistoryTest {
    private static final int EDITS = 13;
    private static final int REFUSALS = 20;

    public static void main(String[] args) {
        emptyHistory();
        fiveEditsCanBeUndone();
        everyEditIsUndoneWhole();
        crossingsComeBack();
        editsThatChangeNothing();
        editsAfterUndo();
        readingIsNoEdit();
        refusedCallsChangeNothing();
        Check.end("HistoryTest");
    }

    private static void emptyHistory() {
        QuandleColorings q = new QuandleColorings();
        Check.due("new: undo()", q.undo(), Check.NONE);
        Check.due("new: undo() again", q.undo(), Check.NONE);
        Check.due("a refused undo changes nothing: coloringCount()", q.coloringCount(), 9);
        q.loadTrivial(2);
        Check.due("one edit: undo()", q.undo(), 0);
        Check.due("none left: undo()", q.undo(), Check.NONE);
        Check.due("none left: size()", q.size(), 3);
    }

    private static void fiveEditsCanBeUndone() {
        for (int edits = 1; edits <= 12; edits++) {
            QuandleColorings q = new QuandleColorings();
            q.setModulus(12);
            for (int weight = 1; weight < edits; weight++) {
                Check.due("setWeight(0, 0, " + weight + ")", q.setWeight(0, 0, weight), weight - 1);
            }
            int kept = Math.min(edits, 5);
            for (int left = kept - 1; left >= 0; left--) {
                Check.due(edits + " edits: undo()", q.undo(), left);
                Check.due(edits + " edits: weight(0, 0)", q.weight(0, 0), Math.max(edits - 1 - (kept - left), 0));
            }
            Check.due(edits + " edits: undo() without one left", q.undo(), Check.NONE);
            Check.due(edits + " edits: modulus", q.setModulus(4), edits <= 5 ? 3 : 12);
        }
    }

    private static void everyEditIsUndoneWhole() {
        for (int first = 0; first < EDITS; first++) {
            for (int second = 0; second < EDITS; second++) {
                QuandleColorings q = busyObject();
                List<Integer> before = everything(q);
                Check.holds("edit " + first + " is taken", edit(q, first) >= 0);
                List<Integer> between = everything(q);
                boolean taken = edit(q, second) >= 0;
                Check.holds("edit " + second + " is taken after " + first, taken == !isRefusedAfter(first, second));
                Check.due("undo() of edit " + second, taken ? q.undo() : 4, 4);
                Check.holds("edit " + second + " after " + first + " is undone", everything(q).equals(between));
                Check.due("undo() of edit " + first, q.undo(), taken ? 3 : 4);
                Check.holds("edit " + first + " is undone", everything(q).equals(before));
            }
        }
    }

    private static void crossingsComeBack() {
        QuandleColorings q = new QuandleColorings();
        q.setStrands(4);
        q.appendCrossing(3);
        q.appendCrossing(-2);
        q.removeCrossing();
        q.removeCrossing();
        q.appendCrossing(1);
        q.undo();
        q.undo();
        Check.due("two undone: crossingCount()", q.crossingCount(), 1);
        q.undo();
        Check.due("the last crossing is back: removeCrossing()", q.removeCrossing(), 2);
        Check.due("the first crossing is back: removeCrossing()", q.removeCrossing(), 3);
        Check.due("no other: removeCrossing()", q.removeCrossing(), Check.NONE);
    }

    private static void editsThatChangeNothing() {
        QuandleColorings q = new QuandleColorings();
        q.loadDihedral(3);
        q.setEntry(0, 0, 0);
        q.setWeight(1, 1, 0);
        q.addCoboundary(2, 0);
        q.setModulus(3);
        for (int left = 4; left >= 0; left--) {
            Check.due("edits that change nothing: undo()", q.undo(), left);
        }
        Check.due("edits that change nothing: undo() without one left", q.undo(), Check.NONE);
    }

    private static void editsAfterUndo() {
        QuandleColorings q = new QuandleColorings();
        for (int weight = 0; weight < 7; weight++) {
            q.setWeight(0, 0, weight % 3);
        }
        Check.due("7 edits: undo()", q.undo(), 4);
        Check.due("7 edits: undo()", q.undo(), 3);
        q.setWeight(1, 0, 2);
        Check.due("after 2 undone and a new edit: undo()", q.undo(), 3);
        Check.due("the new edit is undone: weight(1, 0)", q.weight(1, 0), 0);
        Check.due("the older edit is not: weight(0, 0)", q.weight(0, 0), 1);
        Check.due("the older edit: undo()", q.undo(), 2);
        Check.due("the older edit: weight(0, 0)", q.weight(0, 0), 0);
        q.loadTrivial(4);
        q.loadTrivial(5);
        q.loadTrivial(6);
        q.loadTrivial(1);
        Check.due("full again: undo()", q.undo(), 4);
        Check.due("full again: size()", q.size(), 6);
    }

    private static void readingIsNoEdit() {
        QuandleColorings q = new QuandleColorings();
        everything(q);
        Check.due("after reading: undo()", q.undo(), Check.NONE);
        q.loadTrivial(2);
        everything(q);
        Check.due("after an edit and reading: undo()", q.undo(), 0);
    }

    private static void refusedCallsChangeNothing() {
        for (int call = 0; call < REFUSALS; call++) {
            QuandleColorings q = busyObject();
            q.undo();
            List<Integer> before = everything(q);
            Check.holds("call " + call + " is refused", refused(q, call) < 0);
            Check.holds("refused call " + call + " changes nothing", everything(q).equals(before));
            Check.due("refused call " + call + " is no edit: undo()", q.undo(), 3);
        }
        QuandleColorings q = busyObject();
        q.setEntry(0, 0, 1);
        Check.due("loadDual(), not invertible", q.loadDual(), Check.BAD_STATE);
        Check.due("a refused dual is no edit: undo()", q.undo(), 4);
        fullBraid();
        emptyBraid();
    }

    private static void fullBraid() {
        QuandleColorings q = new QuandleColorings();
        for (int count = 4; count <= 12; count++) {
            q.appendCrossing(1);
        }
        q.undo();
        q.appendCrossing(-1);
        q.undo();
        q.appendCrossing(1);
        Check.due("appendCrossing(1), full", q.appendCrossing(1), Check.LIMIT);
        Check.due("a refused crossing is no edit: undo()", q.undo(), 4);
        Check.due("crossingCount()", q.crossingCount(), 11);
    }

    private static void emptyBraid() {
        QuandleColorings q = new QuandleColorings();
        q.setStrands(3);
        Check.due("removeCrossing(), none", q.removeCrossing(), Check.NONE);
        Check.due("a refused removal is no edit: undo()", q.undo(), 0);
        Check.due("crossingCount()", q.crossingCount(), 3);
    }

    /** More than 5 edits, so that the oldest are forgotten; invertible, with weights and a mixed braid. */
    private static QuandleColorings busyObject() {
        QuandleColorings q = new QuandleColorings();
        q.loadAlexander(5, 2);
        q.setModulus(7);
        q.setStrands(3);
        q.appendCrossing(1);
        q.appendCrossing(-2);
        q.appendCrossing(1);
        q.appendCrossing(2);
        q.setWeight(1, 3, 6);
        q.setWeight(4, 0, 2);
        return q;
    }

    private static int edit(QuandleColorings q, int number) {
        switch (number) {
            case 0: return q.loadTrivial(6);
            case 1: return q.loadDihedral(5);
            case 2: return q.loadAlexander(5, 3);
            case 3: return q.loadConjugation();
            case 4: return q.loadCyclicRack(4);
            case 5: return q.loadDual();
            case 6: return q.setEntry(0, 0, q.size() - 1);
            case 7: return q.setStrands(4);
            case 8: return q.appendCrossing(-1);
            case 9: return q.setModulus(2);
            case 10: return q.setWeight(0, 0, 1);
            case 11: return q.addCoboundary(0, 1);
            default: return q.removeCrossing();
        }
    }

    /** No dual of an operation that is not invertible, no removal from an empty braid. */
    private static boolean isRefusedAfter(int first, int second) {
        return first == 6 && second == 5 || first == 7 && second == 12;
    }

    private static int refused(QuandleColorings q, int number) {
        switch (number) {
            case 0: return q.loadTrivial(0);
            case 1: return q.loadDihedral(7);
            case 2: return q.loadAlexander(4, 2);
            case 3: return q.loadAlexander(5, 5);
            case 4: return q.loadCyclicRack(-1);
            case 5: return q.setEntry(5, 0, 0);
            case 6: return q.setEntry(0, 0, 5);
            case 7: return q.setStrands(1);
            case 8: return q.setStrands(5);
            case 9: return q.appendCrossing(0);
            case 10: return q.appendCrossing(3);
            case 11: return q.setModulus(1);
            case 12: return q.setModulus(13);
            case 13: return q.setWeight(0, 0, 7);
            case 14: return q.setWeight(5, 0, 0);
            case 15: return q.addCoboundary(0, 7);
            case 16: return q.addCoboundary(5, 0);
            case 17: return q.stateSum(7);
            case 18: return q.nextColoring(-1);
            default: return q.orbit(5);
        }
    }

    /** All that the face tells without an edit. */
    private static List<Integer> everything(QuandleColorings q) {
        List<Integer> all = new ArrayList<>();
        int size = q.size();
        all.add(size);
        for (int x = 0; x < size; x++) {
            for (int y = 0; y < size; y++) {
                all.add(q.entry(x, y));
                all.add(q.quotient(x, y));
                all.add(q.weight(x, y));
            }
            all.add(q.orbit(x));
        }
        all.add(q.nonInvertibleColumn());
        all.add(q.distributivityViolation());
        all.add(q.idempotencyViolation());
        all.add(q.kind());
        all.add(q.innerGroupOrder());
        all.add(q.automorphismCount());
        all.add(q.crossingCount());
        all.add(q.coloringCount());
        all.add(q.nextColoring(0));
        all.add(q.nextColoring(1));
        all.add(q.cocycleViolation());
        for (int total = 0; total <= 12; total++) {
            all.add(q.stateSum(total));
        }
        return all;
    }
}
