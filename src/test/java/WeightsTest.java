/** Promises 25 to 30: setModulus, setWeight, addCoboundary, weight, cocycleViolation and stateSum. */
public final class WeightsTest {
    public static void main(String[] args) {
        setModulus();
        setWeight();
        addCoboundary();
        coboundaryOfChangedTable();
        weight();
        cocycleViolation();
        stateSumOfPositiveCrossings();
        stateSumOfNegativeCrossings();
        stateSumErrors();
        Check.end("WeightsTest");
    }

    private static void setModulus() {
        QuandleColorings q = new QuandleColorings();
        q.setWeight(1, 2, 2);
        Check.due("setModulus(3), the same", q.setModulus(3), 3);
        Check.due("the same modulus sets the weights to 0: weight(1, 2)", q.weight(1, 2), 0);
        Check.due("setModulus(12)", q.setModulus(12), 3);
        q.setWeight(0, 0, 11);
        Check.due("setModulus(1)", q.setModulus(1), Check.BAD_ARGUMENT);
        Check.due("setModulus(13)", q.setModulus(13), Check.BAD_ARGUMENT);
        for (int far : Check.FAR) {
            Check.due("setModulus(" + far + ")", q.setModulus(far), Check.BAD_ARGUMENT);
        }
        Check.due("refused moduli keep the weights: weight(0, 0)", q.weight(0, 0), 11);
        Check.due("setModulus(2)", q.setModulus(2), 12);
        Check.due("setModulus(2): weight(0, 0)", q.weight(0, 0), 0);
        Check.due("setModulus keeps the operation: size()", q.size(), 3);
        Check.due("setModulus keeps the braid: crossingCount()", q.crossingCount(), 3);
        q.undo();
        Check.due("undone: weight(0, 0)", q.weight(0, 0), 11);
        Check.due("undone: setModulus(5)", q.setModulus(5), 12);
    }

    private static void setWeight() {
        QuandleColorings q = new QuandleColorings();
        Check.due("setWeight(0, 1, 2)", q.setWeight(0, 1, 2), 0);
        Check.due("setWeight(0, 1, 1)", q.setWeight(0, 1, 1), 2);
        Check.due("setWeight(1, 0, 2)", q.setWeight(1, 0, 2), 0);
        Check.dueWeights("set", q, 3, 0, 1, 0, 2, 0, 0, 0, 0, 0);
        Check.due("setWeight(0, 1, 3)", q.setWeight(0, 1, 3), Check.BAD_ARGUMENT);
        Check.due("setWeight(0, 1, -1)", q.setWeight(0, 1, -1), Check.BAD_ARGUMENT);
        Check.due("setWeight(3, 1, 0)", q.setWeight(3, 1, 0), Check.BAD_ARGUMENT);
        Check.due("setWeight(-1, 1, 0)", q.setWeight(-1, 1, 0), Check.BAD_ARGUMENT);
        Check.due("setWeight(0, 3, 0)", q.setWeight(0, 3, 0), Check.BAD_ARGUMENT);
        Check.due("setWeight(0, -1, 0)", q.setWeight(0, -1, 0), Check.BAD_ARGUMENT);
        for (int far : Check.FAR) {
            Check.due("setWeight(" + far + ", 0, 0)", q.setWeight(far, 0, 0), Check.BAD_ARGUMENT);
            Check.due("setWeight(0, " + far + ", 0)", q.setWeight(0, far, 0), Check.BAD_ARGUMENT);
            Check.due("setWeight(0, 0, " + far + ")", q.setWeight(0, 0, far), Check.BAD_ARGUMENT);
        }
        Check.dueWeights("refused", q, 3, 0, 1, 0, 2, 0, 0, 0, 0, 0);
        q.setModulus(12);
        Check.due("setWeight(2, 2, 11)", q.setWeight(2, 2, 11), 0);
        Check.due("setWeight(2, 2, 12)", q.setWeight(2, 2, 12), Check.BAD_ARGUMENT);
        q.loadTrivial(6);
        Check.due("setWeight(5, 5, 11)", q.setWeight(5, 5, 11), 0);
        Check.due("weight(5, 5)", q.weight(5, 5), 11);
        q.setModulus(2);
        Check.due("setWeight(5, 5, 2), modulus 2", q.setWeight(5, 5, 2), Check.BAD_ARGUMENT);
    }

    private static void addCoboundary() {
        QuandleColorings q = new QuandleColorings();
        q.setModulus(5);
        Check.due("addCoboundary(0, 2)", q.addCoboundary(0, 2), 4);
        // 0 grows at (0, 1) and (0, 2); 1 * 2 = 0 and 2 * 1 = 0 are reduced; at (0, 0) both hold.
        Check.dueWeights("coboundary", q, 3, 0, 2, 2, 0, 0, 3, 0, 3, 0);
        Check.due("addCoboundary(0, 3)", q.addCoboundary(0, 3), 4);
        Check.dueWeights("coboundary and its negative", q, 3, 0, 0, 0, 0, 0, 0, 0, 0, 0);
        Check.due("addCoboundary(1, 0)", q.addCoboundary(1, 0), 0);
        Check.due("an edit that changes nothing is an edit: undo()", q.undo(), 3);
        Check.due("addCoboundary(3, 0)", q.addCoboundary(3, 0), Check.BAD_ARGUMENT);
        Check.due("addCoboundary(-1, 0)", q.addCoboundary(-1, 0), Check.BAD_ARGUMENT);
        Check.due("addCoboundary(0, 5)", q.addCoboundary(0, 5), Check.BAD_ARGUMENT);
        Check.due("addCoboundary(0, -1)", q.addCoboundary(0, -1), Check.BAD_ARGUMENT);
        for (int far : Check.FAR) {
            Check.due("addCoboundary(" + far + ", 0)", q.addCoboundary(far, 0), Check.BAD_ARGUMENT);
            Check.due("addCoboundary(0, " + far + ")", q.addCoboundary(0, far), Check.BAD_ARGUMENT);
        }
        Check.due("addCoboundary(2, 4)", q.addCoboundary(2, 4), 4);
        Check.due("a coboundary is a cocycle: cocycleViolation()", q.cocycleViolation(), Check.NONE);
        q.loadTrivial(6);
        Check.due("trivial: addCoboundary(3, 1)", q.addCoboundary(3, 1), 0);
        q.loadCyclicRack(6);
        Check.due("cyclic: addCoboundary(0, 1)", q.addCoboundary(0, 1), 12);
        Check.due("cyclic: weight(0, 4)", q.weight(0, 4), 1);
        Check.due("cyclic: weight(5, 4)", q.weight(5, 4), 4);
        Check.due("cyclic: weight(1, 4)", q.weight(1, 4), 0);
    }

    private static void coboundaryOfChangedTable() {
        QuandleColorings q = new QuandleColorings();
        q.loadTrivial(2);
        Check.setTable(q, 0, 0, 0, 0);
        q.setModulus(2);
        q.setWeight(1, 1, 1);
        // All products are 0, so at (0, v) both hold and at (1, v) the weight is reduced.
        Check.due("constant: addCoboundary(0, 1)", q.addCoboundary(0, 1), 2);
        Check.dueWeights("constant", q, 2, 0, 0, 1, 0);
        Check.due("constant: addCoboundary(1, 1)", q.addCoboundary(1, 1), 2);
        Check.dueWeights("constant", q, 2, 0, 0, 0, 1);
    }

    private static void weight() {
        QuandleColorings q = new QuandleColorings();
        q.setWeight(2, 0, 1);
        Check.due("weight(2, 0)", q.weight(2, 0), 1);
        Check.due("weight(0, 2)", q.weight(0, 2), 0);
        Check.due("weight(3, 0)", q.weight(3, 0), Check.BAD_ARGUMENT);
        Check.due("weight(0, 3)", q.weight(0, 3), Check.BAD_ARGUMENT);
        Check.due("weight(-1, 0)", q.weight(-1, 0), Check.BAD_ARGUMENT);
        Check.due("weight(0, -1)", q.weight(0, -1), Check.BAD_ARGUMENT);
        for (int far : Check.FAR) {
            Check.due("weight(" + far + ", 0)", q.weight(far, 0), Check.BAD_ARGUMENT);
            Check.due("weight(0, " + far + ")", q.weight(0, far), Check.BAD_ARGUMENT);
        }
        q.loadTrivial(6);
        Check.due("weight(5, 5)", q.weight(5, 5), 0);
        Check.due("weight(6, 5)", q.weight(6, 5), Check.BAD_ARGUMENT);
        q.setWeight(5, 5, 2);
        q.loadTrivial(5);
        Check.due("weight(5, 5), size 5", q.weight(5, 5), Check.BAD_ARGUMENT);
        q.loadTrivial(6);
        Check.due("weight(5, 5), size 6 again", q.weight(5, 5), 0);
    }

    private static void cocycleViolation() {
        QuandleColorings q = new QuandleColorings();
        Check.due("weights 0: cocycleViolation()", q.cocycleViolation(), Check.NONE);
        q.setEntry(0, 0, 1);
        Check.due("weights 0, any operation: cocycleViolation()", q.cocycleViolation(), Check.NONE);
        q.loadTrivial(6);
        q.setModulus(12);
        for (int i = 0; i < 36; i++) {
            q.setWeight(i / 6, i % 6, (7 * i + 3) % 12);
        }
        Check.due("trivial, any weights: cocycleViolation()", q.cocycleViolation(), Check.NONE);
        q.loadDihedral(3);
        q.setWeight(2, 2, 1);
        // x = 0: weight(x * y, z) is at (2, 2) for y = 1, z = 2; weight(x * z, y * z) is there for y = 0, z = 1.
        Check.due("dihedral, weight(2, 2): cocycleViolation()", q.cocycleViolation(), 1);
        equalOnlyModuloM(q);
        q.loadTrivial(6);
        q.setEntry(5, 5, 4);
        q.setWeight(4, 5, 1);
        // For x = 4 the equation is weight(4, y) = weight(4, y * z), and only 5 * 5 differs from 5.
        Check.due("size 6: cocycleViolation()", q.cocycleViolation(), 36 * 4 + 6 * 5 + 5);
    }

    private static void equalOnlyModuloM(QuandleColorings q) {
        // Constant weights 1 and the constant table 0: both sides are 2 everywhere.
        q.loadTrivial(2);
        q.setModulus(2);
        Check.setTable(q, 0, 0, 0, 0);
        // weight(x, y) + weight(0, z) = weight(x, z) + weight(0, 0) modulo 2.
        q.setWeight(0, 0, 1);
        q.setWeight(0, 1, 1);
        q.setWeight(1, 0, 1);
        q.setWeight(1, 1, 1);
        Check.due("constant weights: cocycleViolation()", q.cocycleViolation(), Check.NONE);
        q.setWeight(1, 0, 0);
        q.setWeight(1, 1, 0);
        Check.due("weights of x alone: cocycleViolation()", q.cocycleViolation(), Check.NONE);
        q.setWeight(1, 1, 1);
        // x = 1, y = 0, z = 1: weight(1, 0) + weight(0, 1) = 1, weight(1, 1) + weight(0, 0) = 2.
        Check.due("weights of x and y: cocycleViolation()", q.cocycleViolation(), 37);
    }

    private static void stateSumOfPositiveCrossings() {
        QuandleColorings q = new QuandleColorings();
        q.loadTrivial(2);
        q.setModulus(12);
        q.setStrands(2);
        q.appendCrossing(1);
        q.appendCrossing(1);
        q.setWeight(0, 0, 1);
        q.setWeight(0, 1, 7);
        q.setWeight(1, 0, 11);
        q.setWeight(1, 1, 4);
        // (a, b) has weight(a, b) + weight(b, a): 2 for (0, 0), 18 - 12 for (0, 1) and (1, 0), 8 for (1, 1).
        int[] due = {0, 0, 1, 0, 0, 0, 2, 0, 1, 0, 0, 0};
        for (int total = 0; total < 12; total++) {
            Check.due("Hopf link: stateSum(" + total + ")", q.stateSum(total), due[total]);
        }
        q.setStrands(3);
        q.appendCrossing(2);
        q.appendCrossing(2);
        Check.due("positions 1 and 2: stateSum(6)", q.stateSum(6), 4);
        Check.due("positions 1 and 2: stateSum(2)", q.stateSum(2), 2);
        q.setStrands(2);
        Check.due("no crossing: stateSum(0)", q.stateSum(0), 4);
        Check.due("no crossing: stateSum(1)", q.stateSum(1), 0);
    }

    private static void stateSumOfNegativeCrossings() {
        QuandleColorings q = new QuandleColorings();
        q.loadCyclicRack(2);
        q.setModulus(10);
        q.setStrands(2);
        q.appendCrossing(-1);
        q.appendCrossing(-1);
        q.setWeight(0, 0, 1);
        q.setWeight(0, 1, 2);
        q.setWeight(1, 0, 4);
        // (a, b) -> (b / a, a) -> (a / (b / a), b / a) = (a + 1, b + 1): no coloring.
        Check.due("two negative crossings, cyclic 2: stateSum(0)", q.stateSum(0), 0);
        q.appendCrossing(-1);
        q.appendCrossing(-1);
        // Four crossings: (a, b), (b + 1, a), (a + 1, b + 1), (b, a + 1), (a, b). Weights -w(b + 1, a) - w(a + 1, b + 1)
        // - w(b, a + 1) - w(a, b): each coloring meets each pair once, so the total is -(1 + 2 + 4) = 3.
        Check.due("four negative crossings, cyclic 2: stateSum(3)", q.stateSum(3), 4);
        Check.due("four negative crossings: coloringCount()", q.coloringCount(), 4);
        Check.due("four negative crossings, cyclic 2: stateSum(7)", q.stateSum(7), 0);
        q.setStrands(2);
        q.appendCrossing(1);
        q.appendCrossing(-1);
        Check.due("a crossing and its inverse cancel: stateSum(0)", q.stateSum(0), 4);
        q.setStrands(2);
        q.appendCrossing(-1);
        q.appendCrossing(1);
        Check.due("the inverse and the crossing cancel: stateSum(0)", q.stateSum(0), 4);
    }

    private static void stateSumErrors() {
        QuandleColorings q = new QuandleColorings();
        Check.due("stateSum(2)", q.stateSum(2), 0);
        Check.due("stateSum(3)", q.stateSum(3), Check.BAD_ARGUMENT);
        Check.due("stateSum(-1)", q.stateSum(-1), Check.BAD_ARGUMENT);
        q.setModulus(12);
        Check.due("stateSum(11)", q.stateSum(11), 0);
        Check.due("stateSum(12)", q.stateSum(12), Check.BAD_ARGUMENT);
        q.setEntry(0, 2, 0);
        Check.due("not invertible: stateSum(0)", q.stateSum(0), Check.BAD_STATE);
        Check.due("not invertible: stateSum(12)", q.stateSum(12), Check.BAD_ARGUMENT);
        for (int far : Check.FAR) {
            Check.due("stateSum(" + far + ")", q.stateSum(far), Check.BAD_ARGUMENT);
        }
    }
}
