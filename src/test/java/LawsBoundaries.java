/** Promises 12 to 15, sentence by sentence: the laws of the operation. */
final class LawsBoundaries {
    /** For each x, y, z of size 3, in their order, a table that is not distributive there and nowhere else. */
    static final String[] ONE_VIOLATION = {
        "1 0 0 / 2 1 1 / 2 2 2", "0 1 2 / 1 2 2 / 2 2 2", "0 1 2 / 1 1 1 / 1 1 1",
        "0 0 2 / 2 1 2 / 2 2 2", "0 0 2 / 0 2 2 / 0 2 2", "0 0 1 / 1 1 2 / 2 2 2",
        "0 0 1 / 1 1 1 / 1 2 1", "0 0 1 / 0 1 1 / 0 1 1", "0 1 0 / 0 1 1 / 0 1 1",
        "2 0 0 / 1 1 2 / 2 2 2", "0 1 2 / 2 1 2 / 2 2 2", "0 0 0 / 2 1 2 / 0 2 2",
        "0 0 0 / 2 1 0 / 0 2 0", "0 0 0 / 1 2 1 / 2 0 2", "0 0 0 / 0 1 2 / 0 0 0",
        "0 0 0 / 1 0 0 / 0 0 0", "0 0 0 / 0 1 0 / 0 1 2", "0 0 0 / 0 0 1 / 0 0 0",
        "1 0 0 / 1 1 1 / 2 1 1", "0 0 0 / 0 1 1 / 1 1 2", "0 0 1 / 0 1 1 / 0 2 2",
        "0 0 0 / 0 0 0 / 2 0 0", "0 0 0 / 0 0 0 / 0 2 0", "0 0 0 / 0 1 0 / 0 2 2",
        "0 0 0 / 0 0 1 / 1 0 2", "0 0 0 / 0 0 0 / 0 1 2", "0 0 0 / 1 1 0 / 2 2 1",
    };
    /** Size 6: (5 * 5) * 5 = 4 * 5 = 3, but (5 * 5) * (5 * 5) = 4 * 4 = 4. */
    static final String LAST_VIOLATION = "loadTrivial(6); setEntry(4, 5, 3); setEntry(5, 5, 4); ";

    private LawsBoundaries() {
    }

    static void run() {
        Sentence.promise(12, "Returns the least y whose column is not a bijection", LawsBoundaries::leastBadColumn);
        Sentence.promise(12, "NOT_FOUND if the operation is invertible.", LawsBoundaries::noBadColumn);
        Sentence.promise(13, "Returns the least value of 36 x + 6 y + z for which (x * y) * z is not (x * z) * (y * z)",
            LawsBoundaries::leastUndistributive);
        Sentence.promise(13, "NOT_FOUND if the operation is distributive.", LawsBoundaries::noneUndistributive);
        Sentence.promise(14, "Returns the least x for which x * x is not x", LawsBoundaries::leastUnidempotent);
        Sentence.promise(14, "NOT_FOUND if the operation is idempotent.", LawsBoundaries::noneUnidempotent);
        Sentence.promise(15, "Returns 2 if the operation is a quandle", LawsBoundaries::quandles);
        Sentence.promise(15, "1 if it is a rack but no quandle", LawsBoundaries::racks);
        Sentence.promise(15, "0 otherwise.", LawsBoundaries::others);
    }

    private static void leastBadColumn() {
        for (int size = 2; size <= 6; size++) {
            for (int column = 0; column < size; column++) {
                // One value is missing and another one is there twice: at the ends of the column, both ways.
                String load = "loadTrivial(" + size + "); ";
                Bench.after(load + "setEntry(0, " + column + ", " + (size - 1) + ")").due("nonInvertibleColumn()", column);
                Bench.after(load + "setEntry(" + (size - 1) + ", " + column + ", 0)").due("nonInvertibleColumn()", column);
                // A second one, in the last column, does not count before it.
                Bench.after(load + "setEntry(0, " + (size - 1) + ", 1); setEntry(0, " + column + ", 1)").due("nonInvertibleColumn()", column);
            }
        }
        Bench.after(Bench.tableCalls("0 0 0 / 0 0 0 / 0 0 0")).run("nonInvertibleColumn() = 0");
        Expect.readsOnly("nonInvertibleColumn()");
    }

    private static void noBadColumn() {
        Bench.after("nonInvertibleColumn() = NOT_FOUND; loadConjugation(); nonInvertibleColumn() = NOT_FOUND");
        Bench.after("loadTrivial(1); nonInvertibleColumn() = NOT_FOUND; setEntry(0, 0, 0); nonInvertibleColumn() = NOT_FOUND");
        Bench.after("loadCyclicRack(6); nonInvertibleColumn() = NOT_FOUND");
        // Two entries of a column change places: in between it is no bijection.
        Bench.after("setEntry(0, 2, 0); nonInvertibleColumn() = 2; setEntry(1, 2, 1); nonInvertibleColumn() = NOT_FOUND");
        Bench.after("setEntry(0, 2, 0); loadDual() = INVALID_STATE; undo(); nonInvertibleColumn() = NOT_FOUND");
        // The larger operation that was there before is forgotten.
        Bench.after("loadTrivial(6); setEntry(0, 5, 1); loadTrivial(5); nonInvertibleColumn() = NOT_FOUND");
    }

    private static void leastUndistributive() {
        for (int i = 0; i < ONE_VIOLATION.length; i++) {
            int x = i / 9;
            int y = i / 3 % 3;
            int z = i % 3;
            Bench.after(Bench.tableCalls(ONE_VIOLATION[i])).due("distributivityViolation()", 36 * x + 6 * y + z);
        }
        Bench.after(LAST_VIOLATION).due("distributivityViolation()", 215);
        // At least (0, 0, 0) and (0, 0, 1): x * y = 1 - y in size 2.
        Bench.after(Bench.tableCalls("1 0 / 1 0")).run("distributivityViolation() = 0");
        Expect.readsOnly("distributivityViolation()");
    }

    private static void noneUndistributive() {
        Bench.after("distributivityViolation() = NOT_FOUND; loadTrivial(1); distributivityViolation() = NOT_FOUND");
        Bench.after("loadConjugation(); distributivityViolation() = NOT_FOUND; loadCyclicRack(6); distributivityViolation() = NOT_FOUND");
        // Not invertible and yet distributive.
        Bench.after(Bench.tableCalls("0 0 / 0 0")).run("distributivityViolation() = NOT_FOUND");
        Bench.after(LAST_VIOLATION + "loadTrivial(5); distributivityViolation() = NOT_FOUND; undo(); distributivityViolation() = 215");
    }

    private static void leastUnidempotent() {
        for (int size = 2; size <= 6; size++) {
            for (int x = 0; x < size; x++) {
                String set = "loadTrivial(" + size + "); setEntry(" + x + ", " + x + ", " + (x + 1) % size + "); ";
                Bench.after(set).due("idempotencyViolation()", x);
                // The last one, too, is no other answer.
                Bench.after(set + "setEntry(" + (size - 1) + ", " + (size - 1) + ", 0)").due("idempotencyViolation()", x);
            }
            Bench.after("loadCyclicRack(" + size + ")").due("idempotencyViolation()", 0);
        }
        Expect.readsOnly("idempotencyViolation()");
    }

    private static void noneUnidempotent() {
        Bench.after("idempotencyViolation() = NOT_FOUND; loadConjugation(); idempotencyViolation() = NOT_FOUND");
        Bench.after("loadTrivial(1); idempotencyViolation() = NOT_FOUND; loadCyclicRack(1); idempotencyViolation() = NOT_FOUND");
        // Not invertible and not distributive, but idempotent.
        Bench.after(Bench.tableCalls("0 0 0 / 0 1 0 / 0 1 2")).run("idempotencyViolation() = NOT_FOUND");
        Bench.after("loadTrivial(6); setEntry(5, 5, 0); loadTrivial(5); idempotencyViolation() = NOT_FOUND");
    }

    private static void quandles() {
        for (int size = 1; size <= 6; size++) {
            Bench.after("loadTrivial(" + size + "); kind() = 2; loadDihedral(" + size + "); kind() = 2; loadDual(); kind() = 2");
        }
        // The cyclic rack of size 1 is a quandle.
        Bench.after("loadCyclicRack(1); kind() = 2; loadConjugation(); kind() = 2; loadAlexander(5, 2); kind() = 2");
        Expect.readsOnly("kind()");
    }

    private static void racks() {
        for (int size = 2; size <= 6; size++) {
            Bench.after("loadCyclicRack(" + size + "); kind() = 1; loadDual(); kind() = 1");
        }
        // Idempotent but for 1 and 2: the columns of 1 and 2 swap these two.
        Bench.after(Bench.tableCalls("0 0 0 / 1 2 2 / 2 1 1")).run("idempotencyViolation() = 1; kind() = 1");
    }

    /** Each of the six ways to lack a property of a rack, with NOT_FOUND for the properties that it has. */
    private static void others() {
        dueLaws("0 0 0 / 1 1 2 / 2 2 1", true, false, false);
        dueLaws("0 0 1 / 2 1 0 / 1 2 2", true, false, true);
        dueLaws("0 0 0 / 0 0 0 / 0 0 0", false, true, false);
        dueLaws("0 0 0 / 0 1 0 / 0 0 2", false, true, true);
        dueLaws("0 0 0 / 0 0 0 / 0 1 2", false, false, false);
        dueLaws("0 0 0 / 0 1 0 / 0 1 2", false, false, true);
        Bench.after(LAST_VIOLATION + "kind() = 0");
        Bench.after("loadTrivial(6); setEntry(0, 5, 5); kind() = 0; undo(); kind() = 2");
    }

    private static void dueLaws(String rows, boolean invertible, boolean distributive, boolean idempotent) {
        Bench bench = Bench.after(Bench.tableCalls(rows)).run("kind() = 0");
        Check.holds(rows + " is invertible: " + invertible, (bench.ask("nonInvertibleColumn()") == Check.NONE) == invertible);
        Check.holds(rows + " is distributive: " + distributive, (bench.ask("distributivityViolation()") == Check.NONE) == distributive);
        Check.holds(rows + " is idempotent: " + idempotent, (bench.ask("idempotencyViolation()") == Check.NONE) == idempotent);
    }
}
