/** Promises 16 to 18: orbit, innerGroupOrder and automorphismCount. */
public final class InnerStructureTest {
    public static void main(String[] args) {
        orbit();
        innerGroupOrder();
        automorphismCount();
        Check.end("InnerStructureTest");
    }

    private static void orbit() {
        QuandleColorings q = new QuandleColorings();
        Check.due("dihedral 3: orbit(2)", q.orbit(2), 7);
        q.loadTrivial(6);
        for (int x = 0; x < 6; x++) {
            Check.due("trivial 6: orbit(" + x + ")", q.orbit(x), 1 << x);
        }
        q.loadDihedral(4);
        Check.due("dihedral 4: orbit(0)", q.orbit(0), 5);
        Check.due("dihedral 4: orbit(3)", q.orbit(3), 10);
        q.loadCyclicRack(6);
        Check.due("cyclic 6: orbit(3)", q.orbit(3), 63);
        q.loadTrivial(3);
        q.setEntry(0, 0, 2);
        Check.due("only 0 * 0 changed: orbit(0)", q.orbit(0), 5);
        Check.due("only 0 * 0 changed: orbit(2)", q.orbit(2), 4);
        // A chain 0 -> 1 -> ... -> 5 -> 5: not invertible, so nothing leads back.
        q.loadTrivial(6);
        for (int x = 0; x < 5; x++) {
            q.setEntry(x, 3, x + 1);
        }
        Check.due("chain: orbit(0)", q.orbit(0), 63);
        Check.due("chain: orbit(2)", q.orbit(2), 60);
        Check.due("chain: orbit(5)", q.orbit(5), 32);
        q.loadConjugation();
        Check.due("conjugation: orbit(5)", q.orbit(5), 38);
        Check.due("orbit(6)", q.orbit(6), Check.BAD_ARGUMENT);
        Check.due("orbit(-1)", q.orbit(-1), Check.BAD_ARGUMENT);
        q.loadTrivial(1);
        Check.due("size 1: orbit(0)", q.orbit(0), 1);
        Check.due("size 1: orbit(1)", q.orbit(1), Check.BAD_ARGUMENT);
        for (int far : Check.FAR) {
            Check.due("orbit(" + far + ")", q.orbit(far), Check.BAD_ARGUMENT);
        }
    }

    private static void innerGroupOrder() {
        QuandleColorings q = new QuandleColorings();
        for (int size = 1; size <= 6; size++) {
            q.loadTrivial(size);
            Check.due("trivial " + size + ": innerGroupOrder()", q.innerGroupOrder(), 1);
            q.loadCyclicRack(size);
            Check.due("cyclic " + size + ": innerGroupOrder()", q.innerGroupOrder(), size);
        }
        q.loadDihedral(4);
        Check.due("dihedral 4: innerGroupOrder()", q.innerGroupOrder(), 4);
        q.loadDihedral(5);
        Check.due("dihedral 5: innerGroupOrder()", q.innerGroupOrder(), 10);
        q.loadAlexander(5, 4);
        Check.due("Alexander 5 4: innerGroupOrder()", q.innerGroupOrder(), 10);
        q.loadAlexander(5, 3);
        Check.due("Alexander 5 3: innerGroupOrder()", q.innerGroupOrder(), 20);
        q.loadTrivial(6);
        setColumn(q, 0, 1, 2, 3, 4, 5, 0);
        Check.due("a cycle of 6: innerGroupOrder()", q.innerGroupOrder(), 6);
        setColumn(q, 5, 1, 0, 2, 3, 4, 5);
        Check.due("a cycle and a swap generate all: innerGroupOrder()", q.innerGroupOrder(), 720);
        Check.due("asked twice: innerGroupOrder()", q.innerGroupOrder(), 720);
        setColumn(q, 0, 1, 2, 3, 4, 0, 5);
        Check.due("all of five points: innerGroupOrder()", q.innerGroupOrder(), 120);
        setColumn(q, 5, 1, 2, 0, 3, 4, 5);
        Check.due("the even ones of five points: innerGroupOrder()", q.innerGroupOrder(), 60);
        q.setEntry(0, 3, 1);
        Check.due("not invertible: innerGroupOrder()", q.innerGroupOrder(), Check.BAD_STATE);
        q.undo();
        Check.due("undone: innerGroupOrder()", q.innerGroupOrder(), 60);
    }

    private static void setColumn(QuandleColorings q, int y, int... column) {
        for (int x = 0; x < column.length; x++) {
            q.setEntry(x, y, column[x]);
        }
    }

    private static void automorphismCount() {
        QuandleColorings q = new QuandleColorings();
        int factorial = 1;
        for (int size = 1; size <= 6; size++) {
            factorial *= size;
            q.loadTrivial(size);
            Check.due("trivial " + size + ": automorphismCount()", q.automorphismCount(), factorial);
            q.loadCyclicRack(size);
            Check.due("cyclic " + size + ": automorphismCount()", q.automorphismCount(), size);
        }
        q.loadDihedral(4);
        Check.due("dihedral 4: automorphismCount()", q.automorphismCount(), 8);
        q.loadDihedral(5);
        Check.due("dihedral 5: automorphismCount()", q.automorphismCount(), 20);
        q.loadTrivial(3);
        q.setEntry(0, 1, 1);
        Check.due("0 and 1 are marked: automorphismCount()", q.automorphismCount(), 1);
        q.loadTrivial(3);
        q.setEntry(1, 0, 2);
        Check.due("1 and 0 are marked: automorphismCount()", q.automorphismCount(), 1);
        // x * y = 0: exactly the bijections that fix 0.
        q.loadTrivial(4);
        Check.setTable(q, new int[16]);
        Check.due("constant, not invertible: automorphismCount()", q.automorphismCount(), 6);
        // x * y = y.
        Check.setTable(q, 0, 1, 2, 3, 0, 1, 2, 3, 0, 1, 2, 3, 0, 1, 2, 3);
        Check.due("right projection: automorphismCount()", q.automorphismCount(), 24);
        q.loadTrivial(2);
        Check.setTable(q, 0, 0, 0, 1);
        Check.due("minimum: automorphismCount()", q.automorphismCount(), 1);
    }
}
