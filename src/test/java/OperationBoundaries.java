/** Promises 1 to 11, sentence by sentence: the new object, the loads, setEntry, size, entry and quotient. */
final class OperationBoundaries {
    private static final String[] DIHEDRAL = {
        "0",
        "0 0 / 1 1",
        "0 2 1 / 2 1 0 / 1 0 2",
        "0 2 0 2 / 3 1 3 1 / 2 0 2 0 / 1 3 1 3",
        "0 2 4 1 3 / 4 1 3 0 2 / 3 0 2 4 1 / 2 4 1 3 0 / 1 3 0 2 4",
        "0 2 4 0 2 4 / 5 1 3 5 1 3 / 4 0 2 4 0 2 / 3 5 1 3 5 1 / 2 4 0 2 4 0 / 1 3 5 1 3 5",
    };
    private static final String[] TRIVIAL = {
        "0",
        "0 0 / 1 1",
        "0 0 0 / 1 1 1 / 2 2 2",
        "0 0 0 0 / 1 1 1 1 / 2 2 2 2 / 3 3 3 3",
        "0 0 0 0 0 / 1 1 1 1 1 / 2 2 2 2 2 / 3 3 3 3 3 / 4 4 4 4 4",
        "0 0 0 0 0 0 / 1 1 1 1 1 1 / 2 2 2 2 2 2 / 3 3 3 3 3 3 / 4 4 4 4 4 4 / 5 5 5 5 5 5",
    };
    private static final String[] CYCLIC = {
        "0",
        "1 1 / 0 0",
        "1 1 1 / 2 2 2 / 0 0 0",
        "1 1 1 1 / 2 2 2 2 / 3 3 3 3 / 0 0 0 0",
        "1 1 1 1 1 / 2 2 2 2 2 / 3 3 3 3 3 / 4 4 4 4 4 / 0 0 0 0 0",
        "1 1 1 1 1 1 / 2 2 2 2 2 2 / 3 3 3 3 3 3 / 4 4 4 4 4 4 / 5 5 5 5 5 5 / 0 0 0 0 0 0",
    };
    /** All pairs of a size and a t that the document allows, each with its table. */
    private static final String[][] ALEXANDER = {
        {"1, 0", TRIVIAL[0]},
        {"2, 1", TRIVIAL[1]},
        {"3, 1", TRIVIAL[2]},
        {"3, 2", DIHEDRAL[2]},
        {"4, 1", TRIVIAL[3]},
        {"4, 3", DIHEDRAL[3]},
        {"5, 1", TRIVIAL[4]},
        {"5, 2", "0 4 3 2 1 / 2 1 0 4 3 / 4 3 2 1 0 / 1 0 4 3 2 / 3 2 1 0 4"},
        {"5, 3", "0 3 1 4 2 / 3 1 4 2 0 / 1 4 2 0 3 / 4 2 0 3 1 / 2 0 3 1 4"},
        {"5, 4", DIHEDRAL[4]},
        {"6, 1", TRIVIAL[5]},
        {"6, 5", DIHEDRAL[5]},
    };
    private static final String CONJUGATION =
        "0 0 0 0 0 0 / 1 1 5 2 5 2 / 2 5 2 5 1 1 / 3 4 4 3 3 4 / 4 3 3 4 4 3 / 5 2 1 1 2 5";

    private OperationBoundaries() {
    }

    static void run() {
        Sentence.promise(1, "Creates a workbench in the initial state", OperationBoundaries::newObject);
        Sentence.promise(1, "with an empty history.", OperationBoundaries::newHistory);
        load(2, "loadTrivial", "Loads the trivial quandle x * y = x.", TRIVIAL);
        load(3, "loadDihedral", "Loads the dihedral quandle x * y = (2y - x) modulo size.", DIHEDRAL);
        alexander();
        conjugation();
        load(6, "loadCyclicRack", "Loads the cyclic rack x * y = (x + 1) modulo size.", CYCLIC);
        dual();
        setEntry();
        Sentence.promise(9, "Returns the size n.", OperationBoundaries::size);
        entry();
        quotient();
    }

    private static void newObject() {
        Bench.after("size() = 3; kind() = 2").dueTable(DIHEDRAL[2]).dueWeights("0 0 0 / 0 0 0 / 0 0 0");
        Bench.after("crossingCount() = 3; removeCrossing() = 1; removeCrossing() = 1; removeCrossing() = 1; removeCrossing() = NOT_FOUND");
        Bench.after("setStrands(3) = 2");
        Bench.after("stateSum(2) = 0; stateSum(3) = INVALID_ARGUMENT; setModulus(12) = 3");
        Bench used = Bench.after("loadConjugation() = 6; setModulus(12) = 3; setStrands(4) = 2; setWeight(5, 5, 11) = 0");
        Bench.after("size() = 3; weight(2, 2) = 0; crossingCount() = 3; setStrands(2) = 2; setModulus(2) = 3");
        used.run("size() = 6; weight(5, 5) = 11; crossingCount() = 0; setStrands(2) = 4; setModulus(2) = 12");
    }

    private static void newHistory() {
        Bench.after("undo() = NOT_FOUND; undo() = NOT_FOUND; size() = 3; crossingCount() = 3");
        Bench.after("loadTrivial(1) = 1; undo() = 0; undo() = NOT_FOUND");
        Expect.refused(Expect.NEW, "undo()", Check.NONE);
        Bench.after(Expect.FULL);
        Bench.after("undo() = NOT_FOUND");
    }

    /** The loads that have the size as their one argument. */
    private static void load(int promise, String method, String words, String[] tables) {
        Sentence.promise(promise, words, () -> loadedTables(method, tables));
        Sentence.promise(promise, "This is an edit.", () -> loadIsEdit(method));
        Sentence.promise(promise, "`size`: 1 to 6", () -> loadSizes(method));
        Sentence.promise(promise, "Returns size", () -> loadReturnsSize(method));
        Sentence.promise(promise, "INVALID_ARGUMENT if size is out of range.", () -> loadRefuses(method));
    }

    private static void loadedTables(String method, String[] tables) {
        String[] starts = {Expect.NEW, "loadConjugation(); ", "loadTrivial(1); ", Expect.BROKEN};
        for (String start : starts) {
            for (int size = 1; size <= 6; size++) {
                Bench.after(start).run(method + "(" + size + ")").dueTable(tables[size - 1]);
            }
        }
    }

    private static void loadIsEdit(String method) {
        for (int size = 1; size <= 6; size++) {
            Expect.edit(method + "(" + size + ")");
        }
        // The second one changes nothing.
        Bench.after(method + "(4) = 4; " + method + "(4) = 4; undo() = 1; size() = 4; undo() = 0; size() = 3; undo() = NOT_FOUND");
    }

    private static void loadSizes(String method) {
        Bench.after(method + "(1) = 1; size() = 1; entry(0, 0) = 0; entry(0, 1) = INVALID_ARGUMENT; entry(1, 0) = INVALID_ARGUMENT");
        Bench.after(method + "(6) = 6; size() = 6; quotient(5, 5); entry(5, 6) = INVALID_ARGUMENT; entry(6, 5) = INVALID_ARGUMENT");
        Bench.after(method + "(0) = INVALID_ARGUMENT; size() = 3; " + method + "(7) = INVALID_ARGUMENT; size() = 3");
    }

    private static void loadReturnsSize(String method) {
        for (int size = 1; size <= 6; size++) {
            Bench.after(Expect.NEW).due(method + "(" + size + ")", size).due("size()", size);
            Bench.after(Expect.BROKEN).due(method + "(" + size + ")", size).due("size()", size);
        }
    }

    private static void loadRefuses(String method) {
        for (int wrong : Expect.outside(1, 6)) {
            Expect.refusedAlways(method + "(" + wrong + ")");
        }
    }

    private static void alexander() {
        Sentence.promise(4, "Loads the Alexander quandle x * y = (t x + (1 - t) y) modulo size.", OperationBoundaries::alexanderTables);
        Sentence.promise(4, "This is an edit.", OperationBoundaries::alexanderIsEdit);
        Sentence.promise(4, "`size`: 1 to 6", OperationBoundaries::alexanderSizes);
        Sentence.promise(4, "`t`: 0 to size - 1", OperationBoundaries::alexanderFactors);
        Sentence.promise(4, "Returns size", OperationBoundaries::alexanderReturnsSize);
        Sentence.promise(4, "INVALID_ARGUMENT if an argument is out of range", OperationBoundaries::alexanderRefuses);
        Sentence.promise(4, "or t and size have a common divisor greater than 1 (the greatest common divisor of 0 and 1 is 1).",
            OperationBoundaries::alexanderCommonDivisors);
    }

    private static void alexanderTables() {
        for (String[] pair : ALEXANDER) {
            Bench.after("loadAlexander(" + pair[0] + ")").dueTable(pair[1]);
            Bench.after(Expect.BROKEN).run("loadAlexander(" + pair[0] + ")").dueTable(pair[1]);
        }
    }

    private static void alexanderIsEdit() {
        for (String[] pair : ALEXANDER) {
            Expect.edit("loadAlexander(" + pair[0] + ")");
        }
        Bench.after("loadAlexander(3, 2) = 3; undo() = 0; undo() = NOT_FOUND");
    }

    private static void alexanderSizes() {
        Bench.after("loadAlexander(1, 0) = 1; size() = 1; loadAlexander(6, 1) = 6; size() = 6; loadAlexander(6, 5) = 6");
        Bench.after("loadAlexander(0, 0) = INVALID_ARGUMENT; loadAlexander(0, 1) = INVALID_ARGUMENT; loadAlexander(7, 1) = INVALID_ARGUMENT; "
            + "loadAlexander(7, 6) = INVALID_ARGUMENT; loadAlexander(7, 3) = INVALID_ARGUMENT; loadAlexander(-1, 0) = INVALID_ARGUMENT; size() = 3");
    }

    /** t = size would be 0 modulo size, and t = size + 1 and t = -1 have no common divisor with size. */
    private static void alexanderFactors() {
        for (int size = 1; size <= 6; size++) {
            String call = "loadAlexander(" + size + ", ";
            Bench.after("").due(call + (size - 1) + ")", size).due(call + size + ")", Check.BAD_ARGUMENT);
            Bench.after("").due(call + (size + 1) + ")", Check.BAD_ARGUMENT).due(call + "-1)", Check.BAD_ARGUMENT);
            Bench.after("").due(call + "0)", size == 1 ? 1 : Check.BAD_ARGUMENT);
        }
    }

    private static void alexanderReturnsSize() {
        for (String[] pair : ALEXANDER) {
            int size = Integer.parseInt(pair[0].substring(0, 1));
            Bench.after("").due("loadAlexander(" + pair[0] + ")", size).due("size()", size);
        }
    }

    private static void alexanderRefuses() {
        for (int wrong : Expect.outside(1, 6)) {
            Expect.refusedAlways("loadAlexander(" + wrong + ", 0)");
            Expect.refusedAlways("loadAlexander(" + wrong + ", 1)");
            Expect.refusedArgument(Expect.BUSY, "loadAlexander(" + wrong + ", " + wrong + ")");
        }
        for (int size = 1; size <= 6; size++) {
            for (int wrong : Expect.outside(0, size - 1)) {
                Expect.refusedArgument(Expect.BUSY, "loadAlexander(" + size + ", " + wrong + ")");
            }
        }
    }

    private static void alexanderCommonDivisors() {
        String[] pairs = {"2, 0", "3, 0", "4, 0", "4, 2", "5, 0", "6, 0", "6, 2", "6, 3", "6, 4"};
        for (String pair : pairs) {
            Expect.refusedAlways("loadAlexander(" + pair + ")");
        }
        Bench.after("loadAlexander(1, 0) = 1; loadAlexander(4, 3) = 4; loadAlexander(5, 4) = 5; loadAlexander(6, 5) = 6");
    }

    private static void conjugation() {
        Sentence.promise(5, "Loads the conjugation quandle of the symmetric group on three points, of size 6.",
            () -> Bench.after("loadTrivial(1); loadConjugation(); kind() = 2; entry(6, 0) = INVALID_ARGUMENT").dueTable(CONJUGATION));
        Sentence.promise(5, "Element k is the permutation (p0, p1, p2) of 0, 1, 2 with index k in lexicographic order, "
            + "which sends the point i to pi.", OperationBoundaries::conjugationElements);
        Sentence.promise(5, "The product of two permutations p q is the permutation that sends i to p(q(i)), and x * y = y^-1 x y.",
            OperationBoundaries::conjugationProducts);
        Sentence.promise(5, "This is an edit.", OperationBoundaries::conjugationIsEdit);
        Sentence.promise(5, "Returns 6.", OperationBoundaries::conjugationReturnsSix);
    }

    /** 0 is the identity, which nothing moves and which moves nothing; 3 and 4 are the two cycles of three points. */
    private static void conjugationElements() {
        Bench bench = Bench.after("loadConjugation()");
        for (int k = 0; k < 6; k++) {
            bench.due("entry(0, " + k + ")", 0).due("entry(" + k + ", 0)", k).due("entry(" + k + ", " + k + ")", k);
        }
        bench.run("entry(3, 4) = 3; entry(4, 3) = 4; entry(3, 5) = 4; entry(4, 1) = 3; orbit(1) = 38; orbit(3) = 24; orbit(0) = 1");
    }

    /** y = 3 sends 0, 1, 2 to 1, 2, 0; so y^-1 (0, 2, 1) y is (1, 0, 2), while y (0, 2, 1) y^-1 would be (2, 1, 0). */
    private static void conjugationProducts() {
        Bench.after("loadConjugation(); entry(1, 3) = 2; entry(1, 4) = 5; entry(2, 3) = 5; entry(5, 3) = 1; entry(5, 4) = 2; entry(2, 4) = 1");
        Bench.after("loadConjugation(); quotient(1, 3) = 5; quotient(1, 4) = 2");
    }

    private static void conjugationIsEdit() {
        Expect.edit("loadConjugation()");
        Bench.after("loadConjugation(); loadConjugation(); undo() = 1; size() = 6; undo() = 0; size() = 3; undo() = NOT_FOUND");
    }

    private static void conjugationReturnsSix() {
        Bench.after("loadConjugation() = 6; loadConjugation() = 6; loadTrivial(1); loadConjugation() = 6; size() = 6");
        Bench.after(Expect.BROKEN).run("loadConjugation() = 6");
    }

    private static void dual() {
        Sentence.promise(7, "Loads the dual operation, in which x * y is what x / y is in the present operation.",
            OperationBoundaries::dualTables);
        Sentence.promise(7, "This is an edit.", OperationBoundaries::dualIsEdit);
        Sentence.promise(7, "Returns the size", OperationBoundaries::dualReturnsSize);
        Sentence.promise(7, "INVALID_STATE if the operation is not invertible.", OperationBoundaries::dualNeedsInvertibility);
    }

    private static void dualTables() {
        Bench.after("loadTrivial(1); loadDual()").dueTable("0");
        Bench.after("loadCyclicRack(6); loadDual()")
            .dueTable("5 5 5 5 5 5 / 0 0 0 0 0 0 / 1 1 1 1 1 1 / 2 2 2 2 2 2 / 3 3 3 3 3 3 / 4 4 4 4 4 4");
        Bench.after("loadCyclicRack(6); loadDual(); loadDual()").dueTable(CYCLIC[5]);
        Bench.after("loadAlexander(5, 2); loadDual()").dueTable("0 3 1 4 2 / 3 1 4 2 0 / 1 4 2 0 3 / 4 2 0 3 1 / 2 0 3 1 4");
        Bench.after("loadConjugation(); loadDual(); entry(1, 3) = 5; entry(1, 4) = 2; quotient(1, 3) = 2");
        // A smaller operation after a larger one, and a column that was not a bijection before.
        Bench.after("loadConjugation(); loadCyclicRack(2); setEntry(0, 1, 0); setEntry(1, 1, 1); loadDual()").dueTable("1 0 / 0 1");
    }

    private static void dualIsEdit() {
        Expect.edit("loadDual()", Check.BAD_STATE);
        // The dihedral quandle is its own dual.
        Bench.after("loadDual(); undo() = 0; undo() = NOT_FOUND").dueTable(DIHEDRAL[2]);
    }

    private static void dualReturnsSize() {
        for (int size = 1; size <= 6; size++) {
            Bench.after("loadCyclicRack(" + size + ")").due("loadDual()", size).due("loadDual()", size);
        }
    }

    private static void dualNeedsInvertibility() {
        Expect.refused(Expect.BROKEN, "loadDual()", Check.BAD_STATE);
        Expect.refused("setEntry(0, 0, 1); ", "loadDual()", Check.BAD_STATE);
        Expect.refused("loadTrivial(6); setEntry(5, 5, 0); ", "loadDual()", Check.BAD_STATE);
        Bench.after("setEntry(0, 0, 1); loadDual() = INVALID_STATE; undo(); loadDual() = 3");
    }

    private static void setEntry() {
        Sentence.promise(8, "Sets an entry of the table.", OperationBoundaries::setsOneEntry);
        Sentence.promise(8, "The weights stay as they are.", OperationBoundaries::setEntryKeepsWeights);
        Sentence.promise(8, "This is an edit.", OperationBoundaries::setEntryIsEdit);
        Sentence.promise(8, "`x`: an element", () -> Expect.elementArgument("setEntry(%s, 0, 0)"));
        Sentence.promise(8, "`y`: an element", () -> Expect.elementArgument("setEntry(0, %s, 0)"));
        Sentence.promise(8, "`value`: an element, the new x * y", OperationBoundaries::setEntryValues);
        Sentence.promise(8, "Returns the previous x * y", OperationBoundaries::setEntryReturnsPrevious);
        Sentence.promise(8, "INVALID_ARGUMENT if an argument is no element.", OperationBoundaries::setEntryRefuses);
    }

    private static void setsOneEntry() {
        Bench.after("setEntry(0, 0, 2)").dueTable("2 2 1 / 2 1 0 / 1 0 2");
        Bench.after("setEntry(2, 2, 0)").dueTable("0 2 1 / 2 1 0 / 1 0 0");
        Bench.after("setEntry(0, 2, 0)").dueTable("0 2 0 / 2 1 0 / 1 0 2");
        Bench.after("loadTrivial(1); setEntry(0, 0, 0)").dueTable("0");
        Bench.after("loadTrivial(6); setEntry(5, 0, 0); setEntry(0, 5, 5); setEntry(5, 5, 4)")
            .dueTable("0 0 0 0 0 5 / 1 1 1 1 1 1 / 2 2 2 2 2 2 / 3 3 3 3 3 3 / 4 4 4 4 4 4 / 0 5 5 5 5 4");
    }

    private static void setEntryKeepsWeights() {
        Bench.after(Bench.weightCalls("1 2 1 / 0 2 2 / 1 1 2")).run("setEntry(0, 0, 1); setEntry(2, 2, 0); setEntry(1, 1, 1)")
            .dueWeights("1 2 1 / 0 2 2 / 1 1 2");
        Bench.after("loadTrivial(6); setModulus(12); setWeight(5, 5, 11); setEntry(5, 5, 0); weight(5, 5) = 11");
    }

    private static void setEntryIsEdit() {
        Expect.edit("setEntry(0, 0, 1)");
        Expect.edit("setEntry(2, 2, 2)");
        Bench.after("setEntry(0, 0, 0) = 0; setEntry(0, 0, 0) = 0; undo() = 1; undo() = 0; undo() = NOT_FOUND");
    }

    private static void setEntryValues() {
        Expect.elementArgument("setEntry(0, 0, %s)");
        for (int size = 1; size <= 6; size++) {
            for (int value = 0; value < size; value++) {
                Bench.after("loadTrivial(" + size + "); setEntry(0, 0, " + value + ")").due("entry(0, 0)", value);
            }
        }
    }

    private static void setEntryReturnsPrevious() {
        Bench.after("setEntry(0, 1, 0) = 2; setEntry(0, 1, 1) = 0; setEntry(0, 1, 1) = 1; setEntry(0, 1, 2) = 1; undo(); setEntry(0, 1, 0) = 1");
        Bench.after("loadTrivial(6); setEntry(5, 5, 0) = 5; setEntry(5, 5, 5) = 0; setEntry(0, 0, 5) = 0; setEntry(0, 0, 0) = 5");
    }

    private static void setEntryRefuses() {
        String[] wrong = {"5, 0, 0", "0, 5, 0", "0, 0, 5", "-1, 0, 0", "0, -1, 0", "0, 0, -1", "5, 5, 5", "-1, -1, -1", "-1, 5, 0",
            "0, 2147483647, -2147483648"};
        for (String arguments : wrong) {
            Expect.refusedArgument(Expect.BUSY, "setEntry(" + arguments + ")");
            Expect.refusedArgument(Expect.FULL, "setEntry(" + arguments + ")");
            Expect.refusedArgument(Expect.BROKEN, "setEntry(" + arguments + ")");
        }
    }

    private static void size() {
        for (int size = 1; size <= 6; size++) {
            Bench.after("loadCyclicRack(" + size + ")").due("size()", size).run("undo()").due("size()", 3);
        }
        Bench.after("loadConjugation(); loadTrivial(7) = INVALID_ARGUMENT; size() = 6; loadTrivial(0) = INVALID_ARGUMENT; size() = 6");
        Bench.after(Expect.BROKEN).run("size() = 5");
        Expect.readsOnly("size()");
    }

    private static void entry() {
        Sentence.promise(10, "Returns an entry of the table.", () -> Expect.readsOnly("entry(2, 1)"));
        Sentence.promise(10, "`x`: an element", () -> Expect.elementArgument("entry(%s, 0)"));
        Sentence.promise(10, "`y`: an element", () -> Expect.elementArgument("entry(0, %s)"));
        Sentence.promise(10, "Returns x * y", OperationBoundaries::entryReturnsProduct);
        Sentence.promise(10, "INVALID_ARGUMENT if an argument is no element.", () -> pairIsRefused("entry"));
    }

    private static void entryReturnsProduct() {
        Bench.after("entry(0, 0) = 0; entry(0, 2) = 1; entry(2, 0) = 1; entry(2, 2) = 2; setEntry(2, 0, 0); entry(2, 0) = 0; entry(0, 2) = 1");
        Bench.after("loadTrivial(1); entry(0, 0) = 0; loadCyclicRack(6); entry(5, 5) = 0; entry(4, 5) = 5; entry(0, 5) = 1");
        Bench.after(Expect.BROKEN).run("entry(0, 4) = 0; entry(2, 4) = 0; entry(4, 4) = 4");
    }

    private static void quotient() {
        Sentence.promise(11, "Divides two elements.", () -> Expect.readsOnly("quotient(2, 1)"));
        Sentence.promise(11, "`x`: an element", () -> Expect.elementArgument("quotient(%s, 0)"));
        Sentence.promise(11, "`y`: an element", () -> Expect.elementArgument("quotient(0, %s)"));
        Sentence.promise(11, "Returns x / y", OperationBoundaries::quotientReturns);
        Sentence.promise(11, "INVALID_ARGUMENT if an argument is no element", () -> pairIsRefused("quotient"));
        Sentence.promise(11, "INVALID_STATE if the operation is not invertible.", OperationBoundaries::quotientNeedsInvertibility);
    }

    private static void quotientReturns() {
        Bench.after("loadTrivial(1); quotient(0, 0) = 0");
        Bench.after("loadCyclicRack(6); quotient(0, 0) = 5; quotient(0, 5) = 5; quotient(5, 0) = 4; quotient(5, 5) = 4; quotient(1, 3) = 0");
        Bench.after("loadAlexander(5, 2); quotient(1, 0) = 3; quotient(0, 1) = 3; quotient(4, 4) = 4; quotient(0, 4) = 2");
        // The columns 0 and 2 are mended and made anew.
        Bench.after("setEntry(0, 0, 1); quotient(0, 0) = INVALID_STATE; setEntry(2, 0, 0); quotient(0, 0) = 2; quotient(1, 0) = 0; quotient(2, 0) = 1");
    }

    private static void quotientNeedsInvertibility() {
        for (int column = 0; column < 5; column++) {
            // x * y = x, but 0 * column = 4: all other columns are bijections still.
            String run = "loadTrivial(5); setEntry(0, " + column + ", 4); ";
            for (int y = 0; y < 5; y++) {
                Bench.after(run).due("quotient(0, " + y + ")", Check.BAD_STATE).due("quotient(4, " + y + ")", Check.BAD_STATE);
            }
        }
        Expect.refused(Expect.BROKEN, "quotient(0, 0)", Check.BAD_STATE);
        Expect.refused(Expect.BROKEN, "quotient(4, 4)", Check.BAD_STATE);
        // INVALID_ARGUMENT goes before INVALID_STATE.
        pairIsRefusedAfter(Expect.BROKEN, "quotient");
    }

    private static void pairIsRefused(String method) {
        pairIsRefusedAfter(Expect.BUSY, method);
        pairIsRefusedAfter(Expect.FULL, method);
        pairIsRefusedAfter(Expect.BROKEN, method);
    }

    private static void pairIsRefusedAfter(String run, String method) {
        String[] wrong = {"5, 0", "0, 5", "-1, 0", "0, -1", "5, 5", "-1, -1", "-1, 5", "5, -1", "2147483647, -2147483648", "4, 6", "6, 4"};
        for (String arguments : wrong) {
            Expect.refusedArgument(run, method + "(" + arguments + ")");
        }
    }
}
