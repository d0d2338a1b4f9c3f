/** Promises 25 to 30, sentence by sentence: the modulus, the weights, cocycles and state sums. */
final class WeightsBoundaries {
    /** For each x, y, z of size 3 a table and weights modulo 2 that break the cocycle's equation there and nowhere else. */
    static final String[][] ONE_VIOLATION = {
        {"1 0 0 / 2 1 1 / 2 2 2", "0 0 0 / 1 0 0 / 0 0 0"}, {"0 2 0 / 2 1 1 / 2 2 2", "1 1 0 / 0 0 0 / 0 0 0"},
        {"2 0 0 / 1 1 1 / 1 2 1", "1 0 0 / 0 0 0 / 1 0 1"}, {"0 0 0 / 2 1 1 / 2 2 2", "0 0 1 / 1 0 0 / 1 0 0"},
        {"0 0 0 / 1 2 1 / 2 2 2", "1 0 1 / 1 0 0 / 1 0 0"}, {"0 0 0 / 1 1 2 / 2 2 2", "0 0 1 / 0 0 0 / 0 0 0"},
        {"0 2 0 / 1 1 1 / 1 2 2", "0 1 0 / 0 0 0 / 0 0 0"}, {"0 2 0 / 1 1 1 / 2 1 2", "0 0 0 / 0 0 0 / 0 1 0"},
        {"0 0 0 / 1 1 1 / 2 0 1", "0 1 0 / 0 0 0 / 0 0 0"}, {"2 0 0 / 1 1 1 / 2 2 2", "0 0 0 / 0 1 1 / 0 0 0"},
        {"0 2 0 / 1 1 1 / 2 2 2", "0 0 0 / 0 0 1 / 0 0 0"}, {"0 0 2 / 1 1 1 / 2 2 2", "0 0 0 / 0 0 1 / 0 0 0"},
        {"0 2 0 / 0 1 1 / 2 2 2", "0 0 0 / 1 1 0 / 0 0 0"}, {"0 2 0 / 1 0 1 / 2 2 2", "0 1 0 / 0 0 0 / 0 0 0"},
        {"0 0 0 / 1 1 2 / 2 0 2", "0 0 0 / 0 1 1 / 0 0 0"}, {"0 0 0 / 1 1 1 / 0 2 2", "0 0 0 / 1 0 0 / 1 0 0"},
        {"0 0 0 / 1 1 1 / 2 0 2", "0 0 0 / 0 1 1 / 0 1 0"}, {"0 0 0 / 1 1 1 / 2 2 0", "0 1 0 / 0 0 1 / 0 1 0"},
        {"1 0 0 / 1 1 1 / 2 2 2", "0 0 0 / 0 0 0 / 1 0 0"}, {"0 1 0 / 1 1 1 / 2 2 2", "0 0 0 / 0 0 0 / 0 1 1"},
        {"0 0 1 / 1 1 1 / 2 2 2", "0 0 0 / 0 0 0 / 0 1 0"}, {"0 0 0 / 0 1 1 / 2 2 2", "0 0 0 / 0 0 0 / 0 1 0"},
        {"0 0 0 / 1 0 1 / 2 2 2", "0 0 0 / 0 1 0 / 0 1 0"}, {"0 0 0 / 1 1 0 / 2 2 2", "0 0 1 / 0 0 0 / 0 1 0"},
        {"1 0 1 / 1 1 1 / 0 2 2", "0 0 0 / 0 0 0 / 1 0 1"}, {"0 0 0 / 1 0 0 / 2 0 2", "0 0 0 / 0 0 0 / 0 1 1"},
        {"0 0 1 / 1 1 1 / 2 2 0", "0 0 1 / 0 0 0 / 0 0 0"},
    };
    private static final String NONE_IN_THREE = "0 0 0 / 0 0 0 / 0 0 0";

    private WeightsBoundaries() {
    }

    static void run() {
        setModulus();
        setWeight();
        addCoboundary();
        weight();
        Sentence.promise(29, "Returns the least value of 36 x + 6 y + z for which the equation of a cocycle does not hold",
            WeightsBoundaries::leastUnclosed);
        Sentence.promise(29, "NOT_FOUND if the weights form a cocycle.", WeightsBoundaries::noneUnclosed);
        stateSum();
    }

    private static void setModulus() {
        Sentence.promise(25, "Sets the modulus and sets all weights to 0.", WeightsBoundaries::setsModulus);
        Sentence.promise(25, "This is an edit.", WeightsBoundaries::setModulusIsEdit);
        Sentence.promise(25, "`modulus`: 2 to 12", WeightsBoundaries::moduli);
        Sentence.promise(25, "Returns the previous modulus", WeightsBoundaries::setModulusReturnsPrevious);
        Sentence.promise(25, "INVALID_ARGUMENT if modulus is out of range.", WeightsBoundaries::setModulusRefuses);
    }

    private static void setsModulus() {
        String weights = Bench.weightCalls("1 2 1 / 2 2 1 / 1 1 2");
        for (int modulus = 2; modulus <= 12; modulus++) {
            // The greatest weight is modulus - 1; the same modulus, 3, sets the weights to 0, too.
            Bench.after(weights + "setModulus(" + modulus + ")").dueWeights(NONE_IN_THREE)
                .due("stateSum(" + (modulus - 1) + ")", 0).due("stateSum(" + modulus + ")", Check.BAD_ARGUMENT);
        }
        // All 36 of them, the last one too; operation and braid stay.
        Bench.after("loadConjugation(); setWeight(5, 5, 2); setWeight(0, 5, 1); setWeight(5, 0, 1); setModulus(12); weight(5, 5) = 0; "
            + "weight(0, 5) = 0; weight(5, 0) = 0; size() = 6; crossingCount() = 3; cocycleViolation() = NOT_FOUND");
    }

    private static void setModulusIsEdit() {
        for (int modulus = 2; modulus <= 12; modulus++) {
            Expect.edit("setModulus(" + modulus + ")");
        }
        Bench.after("setModulus(3); setModulus(3); undo() = 1; undo() = 0; undo() = NOT_FOUND");
        // Undone: a weight that the new modulus would not allow is there again, with its modulus.
        Bench.after("setModulus(12); setWeight(2, 2, 11); setModulus(2); undo() = 2; weight(2, 2) = 11; stateSum(11) = 0; setModulus(3) = 12");
    }

    private static void moduli() {
        Bench.after("setModulus(2) = 3; setWeight(0, 0, 1) = 0; setWeight(0, 0, 2) = INVALID_ARGUMENT");
        Bench.after("setModulus(12) = 3; setWeight(0, 0, 11) = 0; setWeight(0, 0, 12) = INVALID_ARGUMENT");
        Bench.after("setModulus(1) = INVALID_ARGUMENT; setModulus(0) = INVALID_ARGUMENT; setModulus(13) = INVALID_ARGUMENT; setModulus(4) = 3");
    }

    private static void setModulusReturnsPrevious() {
        for (int modulus = 2; modulus <= 12; modulus++) {
            Bench.after("setModulus(" + modulus + ") = 3").due("setModulus(2)", modulus).due("setModulus(12)", 2);
        }
        Bench.after("setModulus(12) = 3; undo(); setModulus(5) = 3; setModulus(13) = INVALID_ARGUMENT; setModulus(2) = 5");
    }

    private static void setModulusRefuses() {
        for (int wrong : Expect.outside(2, 12)) {
            Expect.refusedAlways("setModulus(" + wrong + ")");
        }
    }

    private static void setWeight() {
        Sentence.promise(26, "Sets a weight.", WeightsBoundaries::setsOneWeight);
        Sentence.promise(26, "This is an edit.", WeightsBoundaries::setWeightIsEdit);
        Sentence.promise(26, "`x`: an element", () -> Expect.elementArgument("setWeight(%s, 0, 2)"));
        Sentence.promise(26, "`y`: an element", () -> Expect.elementArgument("setWeight(0, %s, 2)"));
        Sentence.promise(26, "`weight`: 0 to m - 1", () -> Expect.weightArgument("setWeight(2, 0, %s)"));
        Sentence.promise(26, "Returns the previous weight", WeightsBoundaries::setWeightReturnsPrevious);
        Sentence.promise(26, "INVALID_ARGUMENT if an argument is out of range.", WeightsBoundaries::setWeightRefuses);
    }

    private static void setsOneWeight() {
        Bench.after("setWeight(0, 0, 2)").dueWeights("2 0 0 / 0 0 0 / 0 0 0");
        Bench.after("setWeight(2, 2, 1)").dueWeights("0 0 0 / 0 0 0 / 0 0 1");
        Bench.after("setWeight(0, 2, 1); setWeight(0, 2, 2); setWeight(2, 0, 1); setWeight(2, 0, 0)").dueWeights("0 0 2 / 0 0 0 / 0 0 0");
        Bench.after("loadTrivial(1); setModulus(12); setWeight(0, 0, 11)").dueWeights("11");
        Bench.after("loadTrivial(6); setModulus(12); setWeight(0, 5, 11); setWeight(5, 0, 10); setWeight(5, 5, 9); setWeight(1, 0, 8)")
            .dueWeights("0 0 0 0 0 11 / 8 0 0 0 0 0 / 0 0 0 0 0 0 / 0 0 0 0 0 0 / 0 0 0 0 0 0 / 10 0 0 0 0 9")
            .dueTable("0 0 0 0 0 0 / 1 1 1 1 1 1 / 2 2 2 2 2 2 / 3 3 3 3 3 3 / 4 4 4 4 4 4 / 5 5 5 5 5 5");
    }

    private static void setWeightIsEdit() {
        Expect.edit("setWeight(0, 0, 1)");
        Expect.edit("setWeight(2, 2, 0)");
        Bench.after("setWeight(0, 0, 0) = 0; setWeight(0, 0, 0) = 0; undo() = 1; undo() = 0; undo() = NOT_FOUND");
    }

    private static void setWeightReturnsPrevious() {
        Bench.after("setWeight(0, 0, 2) = 0; setWeight(0, 0, 2) = 2; setWeight(0, 0, 0) = 2; setWeight(0, 0, 1) = 0; undo(); setWeight(0, 0, 2) = 0");
        // That of the pair itself, not of the two elements the other way round.
        Bench.after("setWeight(0, 2, 2) = 0; setWeight(2, 0, 1) = 0; setWeight(0, 2, 0) = 2; setWeight(2, 0, 0) = 1");
        Bench.after("loadTrivial(6); setModulus(12); setWeight(0, 5, 11) = 0; setWeight(5, 0, 7) = 0; setWeight(0, 5, 1) = 11; setWeight(5, 0, 1) = 7");
        Bench.after("setModulus(12); loadTrivial(6); setWeight(5, 5, 11) = 0; setWeight(5, 5, 0) = 11; setWeight(5, 5, 12) = INVALID_ARGUMENT; "
            + "setWeight(5, 5, 1) = 0");
    }

    private static void setWeightRefuses() {
        String[] wrong = {"5, 0, 0", "0, 5, 0", "0, 0, 7", "-1, 0, 0", "0, -1, 0", "0, 0, -1", "5, 5, 7", "-1, -1, -1", "5, 0, 7",
            "-2147483648, 2147483647, 0", "0, 0, 2147483647", "0, 0, -2147483648"};
        for (String arguments : wrong) {
            Expect.refusedArgument(Expect.BUSY, "setWeight(" + arguments + ")");
            Expect.refusedArgument(Expect.FULL, "setWeight(" + arguments + ")");
            Expect.refusedArgument(Expect.BROKEN, "setWeight(" + arguments + ")");
        }
        // It needs no invertible operation.
        Bench.after(Expect.BROKEN).run("setWeight(4, 4, 6) = 0; weight(4, 4) = 6");
    }

    private static void addCoboundary() {
        Sentence.promise(27, "Adds a coboundary to the weights: for all elements u and v, weight(u, v) grows by amount if u is x, "
            + "and is reduced by amount if u * v is x (both, if both hold), modulo m.", WeightsBoundaries::addsCoboundary);
        Sentence.promise(27, "This is an edit.", WeightsBoundaries::addCoboundaryIsEdit);
        Sentence.promise(27, "`x`: an element", () -> Expect.elementArgument("addCoboundary(%s, 1)"));
        Sentence.promise(27, "`amount`: 0 to m - 1", () -> Expect.weightArgument("addCoboundary(2, %s)"));
        Sentence.promise(27, "Returns the number of weights that have changed", WeightsBoundaries::coboundaryChanges);
        Sentence.promise(27, "INVALID_ARGUMENT if an argument is out of range.", WeightsBoundaries::addCoboundaryRefuses);
    }

    private static void addsCoboundary() {
        // Up at (0, 1) and (0, 2), down at 1 * 2 = 0 and 2 * 1 = 0, both at 0 * 0 = 0.
        Bench.after("addCoboundary(0, 1)").dueWeights("0 1 1 / 0 0 2 / 0 2 0");
        Bench.after("addCoboundary(0, 2)").dueWeights("0 2 2 / 0 0 1 / 0 1 0");
        Bench.after("addCoboundary(2, 1)").dueWeights("0 2 0 / 2 0 0 / 1 1 0");
        // Around the modulus: 2 + 2 is 1, 0 - 2 is 1, and 2 stays where both hold.
        Bench.after(Bench.weightCalls("2 2 2 / 2 2 2 / 2 2 2") + "addCoboundary(0, 2)").dueWeights("2 1 1 / 2 2 0 / 2 0 2");
        Bench.after(Bench.weightCalls("2 2 2 / 2 2 2 / 2 2 2") + "addCoboundary(0, 1)").dueWeights("2 0 0 / 2 2 1 / 2 1 2");
        Bench.after("setModulus(2); addCoboundary(1, 1)").dueWeights("0 0 1 / 1 0 1 / 1 0 0");
        Bench.after("setModulus(12); " + Bench.weightCalls("11 11 0 / 11 0 0 / 0 11 5") + "addCoboundary(0, 11)").dueWeights("11 10 11 / 11 0 1 / 0 0 5");
        // m - 1 and then 1 is nothing.
        Bench.after("setModulus(12); addCoboundary(2, 11); addCoboundary(2, 1)").dueWeights(NONE_IN_THREE);
        // Nowhere but for u = x: no product is 1; and everywhere, for every product is 0.
        Bench.after(Bench.tableCalls("0 0 / 0 0") + "addCoboundary(1, 1)").dueWeights("0 0 / 1 1");
        Bench.after(Bench.tableCalls("0 0 / 0 0") + "addCoboundary(0, 1)").dueWeights("0 0 / 2 2");
        Bench.after("loadCyclicRack(6); setModulus(12); addCoboundary(0, 1)")
            .dueWeights("1 1 1 1 1 1 / 0 0 0 0 0 0 / 0 0 0 0 0 0 / 0 0 0 0 0 0 / 0 0 0 0 0 0 / 11 11 11 11 11 11");
        Bench.after("loadTrivial(1); addCoboundary(0, 2); weight(0, 0) = 0");
    }

    private static void addCoboundaryIsEdit() {
        Expect.edit("addCoboundary(0, 1)");
        Expect.edit("addCoboundary(2, 0)");
        // Those that change nothing.
        Bench.after("addCoboundary(0, 0) = 0; loadTrivial(6); addCoboundary(5, 2) = 0; undo() = 2; undo() = 1; undo() = 0; undo() = NOT_FOUND");
    }

    private static void coboundaryChanges() {
        Bench.after("addCoboundary(0, 0) = 0; addCoboundary(0, 1) = 4; addCoboundary(0, 2) = 4; addCoboundary(1, 1) = 4; addCoboundary(2, 2) = 4");
        Bench.after("setModulus(2); addCoboundary(0, 1) = 4; addCoboundary(0, 1) = 4");
        Bench.after("loadTrivial(6); addCoboundary(0, 1) = 0; loadCyclicRack(6); addCoboundary(5, 2) = 12; loadTrivial(1); addCoboundary(0, 1) = 0");
        Bench.after("loadAlexander(5, 2); addCoboundary(4, 1) = 8; addCoboundary(4, 0) = 0");
        Bench.after(Bench.tableCalls("0 0 / 0 0") + "addCoboundary(0, 1) = 2; addCoboundary(1, 2) = 2");
        // All weights: x * y = 1 for x = 0, and 0 otherwise.
        Bench.after(Bench.tableCalls("1 1 / 0 0") + "addCoboundary(0, 1) = 4; addCoboundary(1, 1) = 4");
    }

    private static void addCoboundaryRefuses() {
        String[] wrong = {"5, 0", "-1, 0", "0, 7", "0, -1", "5, 7", "-1, -1", "5, -1", "-1, 7", "2147483647, 1", "-2147483648, 1",
            "1, 2147483647", "1, -2147483648"};
        for (String arguments : wrong) {
            Expect.refusedArgument(Expect.BUSY, "addCoboundary(" + arguments + ")");
            Expect.refusedArgument(Expect.FULL, "addCoboundary(" + arguments + ")");
            Expect.refusedArgument(Expect.BROKEN, "addCoboundary(" + arguments + ")");
        }
    }

    private static void weight() {
        Sentence.promise(28, "Returns a weight.", () -> Expect.readsOnly("weight(2, 2)"));
        Sentence.promise(28, "`x`: an element", () -> Expect.elementArgument("weight(%s, 0)"));
        Sentence.promise(28, "`y`: an element", () -> Expect.elementArgument("weight(0, %s)"));
        Sentence.promise(28, "Returns the weight", WeightsBoundaries::weightReturns);
        Sentence.promise(28, "INVALID_ARGUMENT if an argument is no element.", WeightsBoundaries::weightRefuses);
    }

    private static void weightReturns() {
        Bench.after("weight(0, 0) = 0; weight(2, 2) = 0; setWeight(0, 2, 2); weight(0, 2) = 2; weight(2, 0) = 0");
        Bench.after("loadTrivial(6); setModulus(12); setWeight(5, 5, 11); setWeight(0, 5, 10); weight(5, 5) = 11; weight(0, 5) = 10; weight(5, 0) = 0");
        // Weights of elements that are gone do not come back.
        Bench.after("loadTrivial(6); setWeight(5, 5, 2); loadTrivial(5); weight(5, 5) = INVALID_ARGUMENT; loadTrivial(6); weight(5, 5) = 0");
        Bench.after(Expect.BROKEN).run("weight(1, 3) = 6; weight(4, 0) = 0");
    }

    private static void weightRefuses() {
        String[] wrong = {"5, 0", "0, 5", "-1, 0", "0, -1", "5, 5", "-1, -1", "-1, 5", "2147483647, -2147483648", "4, 6", "6, 4"};
        for (String arguments : wrong) {
            Expect.refusedArgument(Expect.BUSY, "weight(" + arguments + ")");
            Expect.refusedArgument(Expect.BROKEN, "weight(" + arguments + ")");
        }
    }

    private static void leastUnclosed() {
        for (int i = 0; i < ONE_VIOLATION.length; i++) {
            int x = i / 9;
            int y = i / 3 % 3;
            int z = i % 3;
            String set = Bench.tableCalls(ONE_VIOLATION[i][0]) + "setModulus(2); " + Bench.weightCalls(ONE_VIOLATION[i][1]);
            Bench.after(set).due("cocycleViolation()", 36 * x + 6 * y + z);
        }
        // (5, 5, 5) alone: weight(5, 5) + weight(3, 5) = 1, but weight(5, 5) + weight(3, 3) = 0.
        Bench.after("loadTrivial(6); setEntry(3, 5, 4); setEntry(5, 5, 3); setWeight(3, 5, 1); cocycleViolation() = 215");
        Bench.after("setWeight(0, 1, 1); cocycleViolation() = 6; undo(); cocycleViolation() = NOT_FOUND");
        Expect.readsOnly("cocycleViolation()");
    }

    private static void noneUnclosed() {
        Bench.after("cocycleViolation() = NOT_FOUND; loadConjugation(); cocycleViolation() = NOT_FOUND; setEntry(0, 0, 5); cocycleViolation() = NOT_FOUND");
        Bench.after("loadTrivial(1); setWeight(0, 0, 2); cocycleViolation() = NOT_FOUND");
        for (int modulus = 2; modulus <= 12; modulus++) {
            // A coboundary of a rack is a cocycle, around the modulus too.
            int most = modulus - 1;
            Bench.after("loadConjugation(); setModulus(" + modulus + "); addCoboundary(1, " + most + "); addCoboundary(5, 1); addCoboundary(3, " + most
                + "); addCoboundary(1, " + most + "); cocycleViolation() = NOT_FOUND");
        }
        // Any weights of a trivial quandle.
        Bench.after("loadTrivial(3); " + Bench.weightCalls("1 2 0 / 2 2 1 / 0 1 2") + "cocycleViolation() = NOT_FOUND");
        // Weights of elements that are gone do not count.
        Bench.after("loadDihedral(6); setWeight(4, 5, 1); loadDihedral(3); cocycleViolation() = NOT_FOUND");
    }

    private static void stateSum() {
        Sentence.promise(30, "Counts the colorings of the closed braid with a given total weight.", () -> Expect.readsOnly("stateSum(2)"));
        Sentence.promise(30, "`total`: 0 to m - 1", () -> Expect.weightArgument("stateSum(%s)"));
        Sentence.promise(30, "Returns the number of such colorings", WeightsBoundaries::stateSums);
        Sentence.promise(30, "INVALID_ARGUMENT if total is out of range", WeightsBoundaries::stateSumRefuses);
        Sentence.promise(30, "INVALID_STATE if the operation is not invertible.", WeightsBoundaries::stateSumNeedsInvertibility);
    }

    private static void stateSums() {
        // No crossing: the total weight is 0, whatever the weights are.
        Bench.after("loadTrivial(6); setStrands(4); setWeight(0, 0, 2); stateSum(0) = 1296; stateSum(1) = 0; stateSum(2) = 0");
        Bench.after("loadTrivial(1); setModulus(12); setWeight(0, 0, 5); stateSum(3) = 1; stateSum(0) = 0; stateSum(11) = 0");
        // No coloring.
        Bench.after("loadCyclicRack(2); setStrands(2); appendCrossing(1); stateSum(0) = 0; stateSum(1) = 0; stateSum(2) = 0");
        // A full braid: 12 times 11 is 0 modulo 12, and 11 times 11 is 1.
        String full = Bench.braidCalls(2, 1, 1, 1, 1, 1, 1, 1, 1, 1, 1, 1, 1) + "loadTrivial(1); setModulus(12); setWeight(0, 0, 11); ";
        Bench.after(full + "stateSum(0) = 1; stateSum(1) = 0; removeCrossing(); stateSum(1) = 1; stateSum(0) = 0");
        Bench.after(full + "setModulus(11); setWeight(0, 0, 10); stateSum(10) = 1; stateSum(0) = 0");
        // A full braid of negative crossings: -12 is 10 modulo 11; modulo 12, -12 times 11 is 0 and -11 times 11 is 11.
        String negative = Bench.braidCalls(2, -1, -1, -1, -1, -1, -1, -1, -1, -1, -1, -1, -1) + "loadTrivial(1); setModulus(11); setWeight(0, 0, 1); ";
        Bench.after(negative + "stateSum(10) = 1; stateSum(1) = 0; setModulus(12); setWeight(0, 0, 11); stateSum(0) = 1; removeCrossing(); stateSum(11) = 1");
        // The sums of all totals are together all colorings.
        Bench.after("setWeight(0, 1, 1); stateSum(0) = 6; stateSum(1) = 3; stateSum(2) = 0; coloringCount() = 9");
    }

    private static void stateSumRefuses() {
        for (int wrong : Expect.outside(0, 6)) {
            Expect.refusedArgument(Expect.BUSY, "stateSum(" + wrong + ")");
            // INVALID_ARGUMENT goes before INVALID_STATE.
            Expect.refusedArgument(Expect.BROKEN, "stateSum(" + wrong + ")");
        }
        // There is no coloring at all, and the argument is refused still.
        Expect.refusedArgument("loadCyclicRack(2); setStrands(2); appendCrossing(1); ", "stateSum(3)");
        Expect.refusedArgument(Expect.EMPTY_BRAID, "stateSum(3)");
    }

    private static void stateSumNeedsInvertibility() {
        for (int total = 0; total < 7; total++) {
            Expect.refused(Expect.BROKEN, "stateSum(" + total + ")", Check.BAD_STATE);
        }
        Expect.refused("loadTrivial(6); setEntry(0, 5, 1); setStrands(2); ", "stateSum(0)", Check.BAD_STATE);
        Expect.refused("setEntry(2, 0, 2); ", "stateSum(2)", Check.BAD_STATE);
        Bench.after("setEntry(0, 0, 1); stateSum(0) = INVALID_STATE; undo(); stateSum(0) = 9");
    }
}
