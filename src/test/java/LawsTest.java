/** Promises 12 to 15: nonInvertibleColumn, distributivityViolation, idempotencyViolation and kind. */
public final class LawsTest {
    public static void main(String[] args) {
        nonInvertibleColumn();
        distributivityViolation();
        idempotencyViolation();
        kind();
        Check.end("LawsTest");
    }

    private static void nonInvertibleColumn() {
        QuandleColorings q = new QuandleColorings();
        Check.due("dihedral 3: nonInvertibleColumn()", q.nonInvertibleColumn(), Check.NONE);
        q.setEntry(0, 2, 0);
        Check.due("last column bad", q.nonInvertibleColumn(), 2);
        q.setEntry(2, 1, 2);
        Check.due("two columns bad: the least", q.nonInvertibleColumn(), 1);
        q.setEntry(0, 1, 0);
        Check.due("column 1 mended", q.nonInvertibleColumn(), 2);
        q.setEntry(1, 2, 1);
        Check.due("all columns mended", q.nonInvertibleColumn(), Check.NONE);
        q.loadTrivial(6);
        q.setEntry(0, 5, 5);
        Check.due("size 6, column 5", q.nonInvertibleColumn(), 5);
        q.loadTrivial(1);
        Check.due("size 1", q.nonInvertibleColumn(), Check.NONE);
    }

    private static void distributivityViolation() {
        QuandleColorings q = new QuandleColorings();
        Check.due("dihedral 3: distributivityViolation()", q.distributivityViolation(), Check.NONE);
        q.loadCyclicRack(6);
        Check.due("cyclic 6", q.distributivityViolation(), Check.NONE);
        // Only the column of 1 moves, by 0 -> 1 -> 0: (0 * 0) * 1 = 1 and (0 * 1) * (0 * 1) = 1 * 1 = 0.
        q.loadTrivial(2);
        Check.setTable(q, 0, 1, 1, 0);
        Check.due("invertible, not distributive", q.distributivityViolation(), 1);
        // Only the column of 0 moves, by 1 -> 2 -> 0: (1 * 2) * 0 = 2 and (1 * 0) * (2 * 0) = 2 * 0 = 0.
        q.loadTrivial(3);
        Check.setTable(q, 0, 0, 0, 2, 1, 1, 0, 2, 2);
        Check.due("violated for z = 0 alone", q.distributivityViolation(), 36 + 6 * 2);
        // x * y = 0 is distributive without being invertible.
        q.loadTrivial(3);
        Check.setTable(q, 0, 0, 0, 0, 0, 0, 0, 0, 0);
        Check.due("constant", q.distributivityViolation(), Check.NONE);
        // Where a factor is 5 * 5 = 0, both sides are 0.
        q.loadTrivial(6);
        q.setEntry(5, 5, 0);
        Check.due("only 5 * 5 changed", q.distributivityViolation(), Check.NONE);
        // (4 * 4) * 4 = 5 * 4 = 5 and (4 * 4) * (4 * 4) = 5 * 5 = 0.
        q.setEntry(4, 4, 5);
        Check.due("also 4 * 4 changed", q.distributivityViolation(), 36 * 4 + 6 * 4 + 4);
    }

    private static void idempotencyViolation() {
        QuandleColorings q = new QuandleColorings();
        Check.due("dihedral 3: idempotencyViolation()", q.idempotencyViolation(), Check.NONE);
        q.setEntry(2, 2, 0);
        Check.due("2 * 2 = 0", q.idempotencyViolation(), 2);
        q.setEntry(1, 1, 2);
        Check.due("also 1 * 1 = 2", q.idempotencyViolation(), 1);
        q.loadCyclicRack(1);
        Check.due("cyclic 1 is trivial", q.idempotencyViolation(), Check.NONE);
        q.loadTrivial(6);
        q.setEntry(5, 5, 4);
        Check.due("5 * 5 = 4", q.idempotencyViolation(), 5);
    }

    private static void kind() {
        QuandleColorings q = new QuandleColorings();
        Check.due("dihedral: kind()", q.kind(), 2);
        q.loadConjugation();
        Check.due("conjugation: kind()", q.kind(), 2);
        q.loadTrivial(1);
        Check.due("size 1: kind()", q.kind(), 2);
        q.loadCyclicRack(1);
        Check.due("cyclic 1: kind()", q.kind(), 2);
        q.loadCyclicRack(2);
        Check.due("cyclic 2: kind()", q.kind(), 1);
        q.loadTrivial(2);
        Check.setTable(q, 0, 1, 1, 0);
        Check.due("invertible, not distributive: kind()", q.kind(), 0);
        q.loadTrivial(2);
        Check.setTable(q, 0, 0, 0, 1);
        Check.due("minimum is distributive: distributivityViolation()", q.distributivityViolation(), Check.NONE);
        Check.due("minimum is idempotent: idempotencyViolation()", q.idempotencyViolation(), Check.NONE);
        Check.due("minimum is not invertible: kind()", q.kind(), 0);
        q.loadTrivial(3);
        // Columns: 0 swaps 1 and 2, 1 and 2 are the identity: idempotent and invertible.
        Check.setTable(q, 0, 0, 0, 2, 1, 1, 1, 2, 2);
        Check.due("a quandle that is not connected: kind()", q.kind(), 2);
        Check.setTable(q, 0, 0, 2, 2, 1, 1, 1, 2, 0);
        Check.due("not idempotent, not distributive: kind()", q.kind(), 0);
    }
}
