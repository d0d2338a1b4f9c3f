/** The four examples of the document's part "Description". */
public final class ExamplesTest {
    public static void main(String[] args) {
        dihedralAndTrefoil();
        rackRefusedLoadAndUndo();
        weightsAndCoboundary();
        notInvertible();
        Check.end("ExamplesTest");
    }

    private static void dihedralAndTrefoil() {
        QuandleColorings q = new QuandleColorings();
        Check.due("1: entry(0, 1)", q.entry(0, 1), 2);
        Check.due("1: quotient(0, 1)", q.quotient(0, 1), 2);
        Check.due("1: kind()", q.kind(), 2);
        Check.due("1: coloringCount()", q.coloringCount(), 9);
        Check.due("1: nextColoring(1)", q.nextColoring(1), 1);
        Check.due("1: innerGroupOrder()", q.innerGroupOrder(), 6);
    }

    private static void rackRefusedLoadAndUndo() {
        QuandleColorings q = new QuandleColorings();
        Check.due("2: loadCyclicRack(3)", q.loadCyclicRack(3), 3);
        Check.due("2: kind()", q.kind(), 1);
        Check.due("2: idempotencyViolation()", q.idempotencyViolation(), 0);
        Check.due("2: coloringCount()", q.coloringCount(), 3);
        Check.due("2: loadAlexander(4, 2)", q.loadAlexander(4, 2), -1);
        Check.due("2: undo()", q.undo(), 0);
        Check.due("2: undo() again", q.undo(), -4);
    }

    private static void weightsAndCoboundary() {
        QuandleColorings q = new QuandleColorings();
        Check.due("3: setWeight(0, 1, 1)", q.setWeight(0, 1, 1), 0);
        Check.due("3: cocycleViolation()", q.cocycleViolation(), 6);
        Check.due("3: stateSum(0)", q.stateSum(0), 6);
        Check.due("3: stateSum(1)", q.stateSum(1), 3);
        Check.due("3: addCoboundary(0, 1)", q.addCoboundary(0, 1), 4);
        Check.due("3: weight(0, 1)", q.weight(0, 1), 2);
        Check.due("3: weight(0, 0)", q.weight(0, 0), 0);
    }

    private static void notInvertible() {
        QuandleColorings q = new QuandleColorings();
        Check.due("4: setEntry(0, 0, 1)", q.setEntry(0, 0, 1), 0);
        Check.due("4: nonInvertibleColumn()", q.nonInvertibleColumn(), 0);
        Check.due("4: coloringCount()", q.coloringCount(), -2);
        Check.due("4: orbit(0)", q.orbit(0), 7);
        Check.due("4: loadDual()", q.loadDual(), -2);
    }
}
