/** Promises 16 to 18, sentence by sentence: orbits, the inner group and the automorphisms. */
final class InnerBoundaries {
    /** The column of 0 is a cycle of all elements, that of 5 swaps two: these generate all permutations. */
    private static final String WHOLE_GROUP =
        Bench.tableCalls("1 0 0 0 0 1 / 2 1 1 1 1 0 / 3 2 2 2 2 2 / 4 3 3 3 3 3 / 5 4 4 4 4 4 / 0 5 5 5 5 5");

    private InnerBoundaries() {
    }

    static void run() {
        Sentence.promise(16, "Returns the orbit of an element.", () -> Expect.readsOnly("orbit(2)"));
        Sentence.promise(16, "`x`: an element", () -> Expect.elementArgument("orbit(%s)"));
        Sentence.promise(16, "Returns the orbit as a bit mask, bit u for element u", InnerBoundaries::orbitMasks);
        Sentence.promise(16, "INVALID_ARGUMENT if x is no element.", InnerBoundaries::orbitRefuses);
        Sentence.promise(17, "Returns the number of elements of the inner group, 1 to 720", InnerBoundaries::groupOrders);
        Sentence.promise(17, "INVALID_STATE if the operation is not invertible.", InnerBoundaries::groupNeedsInvertibility);
        Sentence.promise(18, "Returns the number of automorphisms, 1 or more.", InnerBoundaries::automorphisms);
    }

    private static void orbitMasks() {
        for (int size = 1; size <= 6; size++) {
            for (int x = 0; x < size; x++) {
                Bench.after("loadTrivial(" + size + ")").due("orbit(" + x + ")", 1 << x);
                Bench.after("loadCyclicRack(" + size + ")").due("orbit(" + x + ")", (1 << size) - 1);
            }
        }
        Bench.after("loadDihedral(4); orbit(0) = 5; orbit(1) = 10; orbit(2) = 5; orbit(3) = 10");
        Bench.after("loadDihedral(6); orbit(0) = 21; orbit(5) = 42");
        Bench.after("loadConjugation(); orbit(0) = 1; orbit(5) = 38; orbit(4) = 24");
    }

    private static void orbitRefuses() {
        for (int wrong : Expect.outside(0, 4)) {
            Expect.refusedArgument(Expect.BUSY, "orbit(" + wrong + ")");
            Expect.refusedArgument(Expect.FULL, "orbit(" + wrong + ")");
            // It needs no invertible operation: what is refused is the argument alone.
            Expect.refusedArgument(Expect.BROKEN, "orbit(" + wrong + ")");
        }
        Bench.after(Expect.BROKEN).run("orbit(0) = 31; orbit(4) = 31");
    }

    private static void groupOrders() {
        for (int size = 1; size <= 6; size++) {
            Bench.after("loadTrivial(" + size + "); innerGroupOrder() = 1; loadCyclicRack(" + size + ")").due("innerGroupOrder()", size);
        }
        Bench.after(WHOLE_GROUP + "innerGroupOrder() = 720; innerGroupOrder() = 720; loadTrivial(6); innerGroupOrder() = 1; undo(); "
            + "innerGroupOrder() = 720");
        Bench.after(Bench.tableCalls("1 1 / 0 0")).run("innerGroupOrder() = 2");
        // Whole groups of 2, 3, 4 and 5 elements.
        Bench.after(Bench.tableCalls("0 1 / 1 0")).run("innerGroupOrder() = 2");
        Bench.after(Bench.tableCalls("1 0 1 / 2 1 0 / 0 2 2")).run("innerGroupOrder() = 6");
        Bench.after(Bench.tableCalls("1 0 0 1 / 2 1 1 0 / 3 2 2 2 / 0 3 3 3")).run("innerGroupOrder() = 24");
        Bench.after(Bench.tableCalls("1 0 0 0 1 / 2 1 1 1 0 / 3 2 2 2 2 / 4 3 3 3 3 / 0 4 4 4 4")).run("innerGroupOrder() = 120");
        Expect.readsOnly("innerGroupOrder()");
    }

    private static void groupNeedsInvertibility() {
        for (int size = 2; size <= 6; size++) {
            for (int column = 0; column < size; column++) {
                Bench.after("loadTrivial(" + size + "); setEntry(0, " + column + ", 1); innerGroupOrder() = INVALID_STATE; undo(); innerGroupOrder() = 1");
            }
        }
        Expect.refused(Expect.BROKEN, "innerGroupOrder()", Check.BAD_STATE);
        Expect.refused("setEntry(0, 0, 1); ", "innerGroupOrder()", Check.BAD_STATE);
        Bench.after("loadTrivial(1); setEntry(0, 0, 0); innerGroupOrder() = 1");
    }

    private static void automorphisms() {
        int factorial = 1;
        for (int size = 1; size <= 6; size++) {
            factorial *= size;
            Bench.after("loadTrivial(" + size + ")").due("automorphismCount()", factorial);
            Bench.after("loadCyclicRack(" + size + ")").due("automorphismCount()", size);
        }
        // Only the identity: 0 * 1 = 1 marks 0 and 1, and there is no third element, or one.
        Bench.after("loadTrivial(2); setEntry(0, 1, 1); automorphismCount() = 1");
        Bench.after("loadTrivial(3); setEntry(0, 1, 1); automorphismCount() = 1");
        // The operation need not be invertible, nor distributive.
        Bench.after(Bench.tableCalls("0 1 2 / 0 1 2 / 0 1 2")).run("automorphismCount() = 6; innerGroupOrder() = INVALID_STATE");
        Bench.after(WHOLE_GROUP + "automorphismCount() = 1");
        // All four products of 1 and 0 differ from those of 0 and 1, but the swap keeps them: x * y = 1 - x.
        Bench.after(Bench.tableCalls("1 1 / 0 0")).run("automorphismCount() = 2");
        Bench.after(Bench.tableCalls("0 0 / 0 0")).run("automorphismCount() = 1");
        Bench.after("setEntry(0, 0, 1); automorphismCount() = 1; undo(); automorphismCount() = 6");
        Expect.readsOnly("automorphismCount()");
    }
}
