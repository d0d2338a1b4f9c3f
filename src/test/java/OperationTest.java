/** Promises 1 to 11: the new object, the loads, setEntry, size, entry and quotient. */
public final class OperationTest {
    private static final int[] CONJUGATION = {
        0, 0, 0, 0, 0, 0,
        1, 1, 5, 2, 5, 2,
        2, 5, 2, 5, 1, 1,
        3, 4, 4, 3, 3, 4,
        4, 3, 3, 4, 4, 3,
        5, 2, 1, 1, 2, 5,
    };

    public static void main(String[] args) {
        newObject();
        loadTrivial();
        loadDihedral();
        loadAlexander();
        loadConjugation();
        loadCyclicRack();
        loadDual();
        loadsClearWeightsAndKeepTheRest();
        setEntry();
        elements();
        quotients();
        Check.end("OperationTest");
    }

    private static void newObject() {
        QuandleColorings q = new QuandleColorings();
        Check.dueTable("new", q, 3, 0, 2, 1, 2, 1, 0, 1, 0, 2);
        Check.dueWeights("new", q, 3, 0, 0, 0, 0, 0, 0, 0, 0, 0);
        Check.due("new: crossingCount()", q.crossingCount(), 3);
        Check.due("new: stateSum(2)", q.stateSum(2), 0);
        Check.due("new: stateSum(3)", q.stateSum(3), Check.BAD_ARGUMENT);
        Check.due("new: undo()", q.undo(), Check.NONE);
        for (int i = 0; i < 3; i++) {
            Check.due("new: removeCrossing()", q.removeCrossing(), 1);
        }
        Check.due("new: setModulus(3)", q.setModulus(3), 3);
        Check.due("new: setStrands(2)", q.setStrands(2), 2);
        QuandleColorings other = new QuandleColorings();
        Check.due("two objects share nothing: crossingCount()", other.crossingCount(), 3);
        Check.due("two objects share nothing: undo()", other.undo(), Check.NONE);
    }

    private static void loadTrivial() {
        QuandleColorings q = new QuandleColorings();
        for (int size = 1; size <= 6; size++) {
            Check.due("loadTrivial(" + size + ")", q.loadTrivial(size), size);
            int[] table = new int[size * size];
            for (int i = 0; i < table.length; i++) {
                table[i] = i / size;
            }
            Check.dueTable("trivial", q, size, table);
        }
        Check.due("loadTrivial(0)", q.loadTrivial(0), Check.BAD_ARGUMENT);
        Check.due("loadTrivial(7)", q.loadTrivial(7), Check.BAD_ARGUMENT);
        for (int far : Check.FAR) {
            Check.due("loadTrivial(" + far + ")", q.loadTrivial(far), Check.BAD_ARGUMENT);
        }
        Check.due("trivial: size()", q.size(), 6);
    }

    private static void loadDihedral() {
        QuandleColorings q = new QuandleColorings();
        Check.due("loadDihedral(1)", q.loadDihedral(1), 1);
        Check.dueTable("dihedral 1", q, 1, 0);
        Check.due("loadDihedral(2)", q.loadDihedral(2), 2);
        Check.dueTable("dihedral 2", q, 2, 0, 0, 1, 1);
        Check.due("loadDihedral(3)", q.loadDihedral(3), 3);
        Check.dueTable("dihedral 3", q, 3, 0, 2, 1, 2, 1, 0, 1, 0, 2);
        Check.due("loadDihedral(4)", q.loadDihedral(4), 4);
        Check.dueTable("dihedral 4", q, 4, 0, 2, 0, 2, 3, 1, 3, 1, 2, 0, 2, 0, 1, 3, 1, 3);
        Check.due("loadDihedral(5)", q.loadDihedral(5), 5);
        Check.due("dihedral 5: entry(4, 0)", q.entry(4, 0), 1);
        Check.due("dihedral 5: entry(0, 4)", q.entry(0, 4), 3);
        Check.due("loadDihedral(6)", q.loadDihedral(6), 6);
        Check.due("dihedral 6: entry(5, 1)", q.entry(5, 1), 3);
        Check.due("dihedral 6: entry(1, 5)", q.entry(1, 5), 3);
        Check.due("loadDihedral(0)", q.loadDihedral(0), Check.BAD_ARGUMENT);
        Check.due("loadDihedral(7)", q.loadDihedral(7), Check.BAD_ARGUMENT);
        for (int far : Check.FAR) {
            Check.due("loadDihedral(" + far + ")", q.loadDihedral(far), Check.BAD_ARGUMENT);
        }
    }

    private static void loadAlexander() {
        QuandleColorings q = new QuandleColorings();
        for (int size = 0; size <= 7; size++) {
            for (int t = -1; t <= size + 1; t++) {
                int due = isAlexander(size, t) ? size : Check.BAD_ARGUMENT;
                Check.due("loadAlexander(" + size + ", " + t + ")", q.loadAlexander(size, t), due);
                if (due == size) {
                    Check.dueTable("Alexander " + size + " " + t, q, size, alexanderTable(size, t));
                }
            }
        }
        for (int far : Check.FAR) {
            Check.due("loadAlexander(" + far + ", 1)", q.loadAlexander(far, 1), Check.BAD_ARGUMENT);
            Check.due("loadAlexander(5, " + far + ")", q.loadAlexander(5, far), Check.BAD_ARGUMENT);
            Check.due("loadAlexander(" + far + ", " + far + ")", q.loadAlexander(far, far), Check.BAD_ARGUMENT);
        }
    }

    /** All pairs that the document allows, written out. */
    private static boolean isAlexander(int size, int t) {
        String pair = size + ":" + t;
        String allowed = " 1:0 2:1 3:1 3:2 4:1 4:3 5:1 5:2 5:3 5:4 6:1 6:5 ";
        return allowed.contains(" " + pair + " ");
    }

    private static int[] alexanderTable(int size, int t) {
        int[] table = new int[size * size];
        for (int x = 0; x < size; x++) {
            for (int y = 0; y < size; y++) {
                table[size * x + y] = (t * x + (size + 1 - t) * y) % size;
            }
        }
        return table;
    }

    private static void loadConjugation() {
        QuandleColorings q = new QuandleColorings();
        Check.due("loadConjugation()", q.loadConjugation(), 6);
        Check.dueTable("conjugation", q, 6, CONJUGATION);
    }

    private static void loadCyclicRack() {
        QuandleColorings q = new QuandleColorings();
        for (int size = 1; size <= 6; size++) {
            Check.due("loadCyclicRack(" + size + ")", q.loadCyclicRack(size), size);
            int[] table = new int[size * size];
            for (int i = 0; i < table.length; i++) {
                table[i] = i / size == size - 1 ? 0 : i / size + 1;
            }
            Check.dueTable("cyclic", q, size, table);
        }
        Check.due("loadCyclicRack(0)", q.loadCyclicRack(0), Check.BAD_ARGUMENT);
        Check.due("loadCyclicRack(7)", q.loadCyclicRack(7), Check.BAD_ARGUMENT);
        for (int far : Check.FAR) {
            Check.due("loadCyclicRack(" + far + ")", q.loadCyclicRack(far), Check.BAD_ARGUMENT);
        }
    }

    private static void loadDual() {
        QuandleColorings q = new QuandleColorings();
        q.loadCyclicRack(4);
        Check.due("loadDual() of cyclic 4", q.loadDual(), 4);
        Check.dueTable("dual of cyclic 4", q, 4, 3, 3, 3, 3, 0, 0, 0, 0, 1, 1, 1, 1, 2, 2, 2, 2);
        Check.due("dual of cyclic 4: quotient(3, 2)", q.quotient(3, 2), 0);
        Check.due("loadDual() twice", q.loadDual(), 4);
        Check.dueTable("dual of dual", q, 4, 1, 1, 1, 1, 2, 2, 2, 2, 3, 3, 3, 3, 0, 0, 0, 0);
        q.loadAlexander(5, 2);
        Check.due("loadDual() of Alexander 5 2", q.loadDual(), 5);
        Check.dueTable("dual of Alexander 5 2", q, 5, alexanderTable(5, 3));
        Check.due("setEntry(1, 4, 1)", q.setEntry(1, 4, 1), 0);
        Check.due("loadDual() of a table that is not invertible", q.loadDual(), Check.BAD_STATE);
        Check.due("after the refused dual: entry(1, 4)", q.entry(1, 4), 1);
        q.loadTrivial(1);
        Check.due("loadDual() of size 1", q.loadDual(), 1);
        Check.dueTable("dual of size 1", q, 1, 0);
        q.loadConjugation();
        Check.due("loadDual() of the conjugation quandle", q.loadDual(), 6);
        Check.due("dual of conjugation: entry(1, 3)", q.entry(1, 3), 5);
        Check.due("dual of conjugation: entry(5, 4)", q.entry(5, 4), 1);
    }

    private static void loadsClearWeightsAndKeepTheRest() {
        for (int load = 0; load < 6; load++) {
            QuandleColorings q = new QuandleColorings();
            q.setModulus(7);
            q.appendCrossing(-1);
            q.loadDihedral(3);
            q.setWeight(0, 0, 6);
            q.setWeight(2, 1, 5);
            int size = loadNumber(q, load);
            Check.due("load " + load + " keeps the braid", q.crossingCount(), 4);
            Check.due("load " + load + " keeps the modulus", q.stateSum(6), 0);
            Check.due("load " + load + " keeps the modulus", q.stateSum(7), Check.BAD_ARGUMENT);
            Check.dueWeights("load " + load, q, size, new int[36]);
            Check.due("load " + load + " is one edit", q.undo(), 4);
            Check.dueWeights("load " + load + " undone", q, 3, 6, 0, 0, 0, 0, 0, 0, 5, 0);
        }
    }

    private static int loadNumber(QuandleColorings q, int load) {
        switch (load) {
            case 0: return q.loadTrivial(3);
            case 1: return q.loadDihedral(3);
            case 2: return q.loadAlexander(3, 2);
            case 3: return q.loadConjugation();
            case 4: return q.loadCyclicRack(4);
            default: return q.loadDual();
        }
    }

    private static void setEntry() {
        QuandleColorings q = new QuandleColorings();
        q.setWeight(0, 1, 2);
        Check.due("setEntry(0, 1, 0)", q.setEntry(0, 1, 0), 2);
        Check.due("setEntry(0, 1, 1)", q.setEntry(0, 1, 1), 0);
        Check.due("setEntry(0, 1, 1) again", q.setEntry(0, 1, 1), 1);
        Check.dueTable("set entry", q, 3, 0, 1, 1, 2, 1, 0, 1, 0, 2);
        Check.due("setEntry keeps weights", q.weight(0, 1), 2);
        Check.due("setEntry(-1, 0, 0)", q.setEntry(-1, 0, 0), Check.BAD_ARGUMENT);
        Check.due("setEntry(3, 0, 0)", q.setEntry(3, 0, 0), Check.BAD_ARGUMENT);
        Check.due("setEntry(0, -1, 0)", q.setEntry(0, -1, 0), Check.BAD_ARGUMENT);
        Check.due("setEntry(0, 3, 0)", q.setEntry(0, 3, 0), Check.BAD_ARGUMENT);
        Check.due("setEntry(0, 0, -1)", q.setEntry(0, 0, -1), Check.BAD_ARGUMENT);
        Check.due("setEntry(0, 0, 3)", q.setEntry(0, 0, 3), Check.BAD_ARGUMENT);
        for (int far : Check.FAR) {
            Check.due("setEntry(" + far + ", 0, 0)", q.setEntry(far, 0, 0), Check.BAD_ARGUMENT);
            Check.due("setEntry(0, " + far + ", 0)", q.setEntry(0, far, 0), Check.BAD_ARGUMENT);
            Check.due("setEntry(0, 0, " + far + ")", q.setEntry(0, 0, far), Check.BAD_ARGUMENT);
        }
        Check.dueTable("refused entries", q, 3, 0, 1, 1, 2, 1, 0, 1, 0, 2);
        q.loadTrivial(6);
        Check.due("setEntry(5, 5, 0)", q.setEntry(5, 5, 0), 5);
        Check.due("entry(5, 5)", q.entry(5, 5), 0);
    }

    private static void elements() {
        QuandleColorings q = new QuandleColorings();
        for (int size = 1; size <= 6; size++) {
            q.loadTrivial(size);
            Check.due("size()", q.size(), size);
            Check.due("entry(last, last)", q.entry(size - 1, size - 1), size - 1);
            Check.due("entry(size, 0)", q.entry(size, 0), Check.BAD_ARGUMENT);
            Check.due("entry(0, size)", q.entry(0, size), Check.BAD_ARGUMENT);
            Check.due("entry(-1, 0)", q.entry(-1, 0), Check.BAD_ARGUMENT);
            Check.due("entry(0, -1)", q.entry(0, -1), Check.BAD_ARGUMENT);
        }
        for (int far : Check.FAR) {
            Check.due("entry(" + far + ", 0)", q.entry(far, 0), Check.BAD_ARGUMENT);
            Check.due("entry(0, " + far + ")", q.entry(0, far), Check.BAD_ARGUMENT);
        }
    }

    private static void quotients() {
        QuandleColorings q = new QuandleColorings();
        q.loadAlexander(5, 2);
        for (int u = 0; u < 5; u++) {
            for (int y = 0; y < 5; y++) {
                Check.due("quotient(" + u + " * " + y + ", " + y + ")", q.quotient(q.entry(u, y), y), u);
            }
        }
        Check.due("quotient(1, 0)", q.quotient(1, 0), 3);
        Check.due("quotient(5, 0)", q.quotient(5, 0), Check.BAD_ARGUMENT);
        Check.due("quotient(0, 5)", q.quotient(0, 5), Check.BAD_ARGUMENT);
        q.setEntry(0, 4, 0);
        Check.due("quotient(1, 0), another column bad", q.quotient(1, 0), Check.BAD_STATE);
        Check.due("quotient(5, 0), not invertible", q.quotient(5, 0), Check.BAD_ARGUMENT);
        Check.due("quotient(0, -1), not invertible", q.quotient(0, -1), Check.BAD_ARGUMENT);
        for (int far : Check.FAR) {
            Check.due("quotient(" + far + ", 0)", q.quotient(far, 0), Check.BAD_ARGUMENT);
            Check.due("quotient(0, " + far + ")", q.quotient(0, far), Check.BAD_ARGUMENT);
        }
        q.undo();
        Check.due("quotient(1, 0) after undo", q.quotient(1, 0), 3);
        q.loadTrivial(2);
        Check.setTable(q, 1, 0, 0, 1);
        Check.due("swapped column: quotient(0, 0)", q.quotient(0, 0), 1);
        Check.due("identity column: quotient(0, 1)", q.quotient(0, 1), 0);
    }
}
