/** Promises 19 to 24, sentence by sentence: the braid and its colorings. */
final class BraidBoundaries {
    private static final int[] STRANDS = {2, 3, 4};

    private BraidBoundaries() {
    }

    static void run() {
        setStrands();
        appendCrossing();
        removeCrossing();
        Sentence.promise(22, "Returns the number of crossings.", BraidBoundaries::crossingCount);
        Sentence.promise(23, "Counts the colorings of the closed braid.", () -> Expect.readsOnly("coloringCount()"));
        Sentence.promise(23, "Returns the number of colorings", BraidBoundaries::coloringNumbers);
        Sentence.promise(23, "INVALID_STATE if the operation is not invertible (even if no crossing is negative).",
            BraidBoundaries::coloringCountNeedsInvertibility);
        nextColoring();
    }

    private static void setStrands() {
        Sentence.promise(19, "Sets the number of strands and removes all crossings.", BraidBoundaries::setsStrands);
        Sentence.promise(19, "This is an edit.", BraidBoundaries::setStrandsIsEdit);
        Sentence.promise(19, "`strands`: 2 to 4", BraidBoundaries::strandNumbers);
        Sentence.promise(19, "Returns the previous number of strands", BraidBoundaries::setStrandsReturnsPrevious);
        Sentence.promise(19, "INVALID_ARGUMENT if strands is out of range.", BraidBoundaries::setStrandsRefuses);
    }

    private static void setsStrands() {
        for (int strands : STRANDS) {
            String call = "setStrands(" + strands + "); crossingCount() = 0; removeCrossing() = NOT_FOUND; ";
            Bench.after(call).due("coloringCount()", power(3, strands));
            Bench.after(Expect.FULL_BRAID + call).due("coloringCount()", power(5, strands));
            Bench.after(Expect.EMPTY_BRAID + call).due("coloringCount()", power(3, strands));
        }
        // The same number of strands removes the crossings, too, and all 12 can be appended again.
        Bench.after(Expect.FULL_BRAID + "setStrands(3); crossingCount() = 0; " + "appendCrossing(2); ".repeat(12)
            + "appendCrossing(2) = LIMIT_REACHED");
        Bench.after(Expect.FULL).run("setStrands(2); size() = 5; weight(2, 2) = 5; setModulus(3) = 7");
    }

    private static void setStrandsIsEdit() {
        for (int strands : STRANDS) {
            Expect.edit("setStrands(" + strands + ")");
        }
        Bench.after("setStrands(2); setStrands(2); undo() = 1; crossingCount() = 0; undo() = 0; crossingCount() = 3; undo() = NOT_FOUND");
        Bench.after(Expect.FULL_BRAID + "setStrands(2); undo() = 4; crossingCount() = 12; removeCrossing() = 2; removeCrossing() = 2; "
            + "removeCrossing() = 1");
        // The first crossing, too, though another one has stood in its place.
        Bench.after("setStrands(4); appendCrossing(-3); undo() = 1; undo() = 0; removeCrossing() = 1; removeCrossing() = 1; removeCrossing() = 1");
    }

    private static void strandNumbers() {
        Bench.after("setStrands(2) = 2; appendCrossing(2) = INVALID_ARGUMENT; appendCrossing(-2) = INVALID_ARGUMENT; appendCrossing(1) = 1");
        Bench.after("setStrands(4) = 2; appendCrossing(4) = INVALID_ARGUMENT; appendCrossing(-4) = INVALID_ARGUMENT; appendCrossing(-3) = 1");
        Bench.after("setStrands(1) = INVALID_ARGUMENT; crossingCount() = 3; setStrands(5) = INVALID_ARGUMENT; crossingCount() = 3; setStrands(3) = 2");
    }

    private static void setStrandsReturnsPrevious() {
        for (int before : STRANDS) {
            for (int after : STRANDS) {
                Bench.after("setStrands(" + before + ")").due("setStrands(" + after + ")", before).due("setStrands(2)", after);
            }
        }
        Bench.after("setStrands(4) = 2; undo(); setStrands(3) = 2; setStrands(5) = INVALID_ARGUMENT; setStrands(2) = 3");
    }

    private static void setStrandsRefuses() {
        for (int wrong : Expect.outside(2, 4)) {
            Expect.refusedAlways("setStrands(" + wrong + ")");
        }
    }

    private static void appendCrossing() {
        Sentence.promise(20, "Appends a crossing.", BraidBoundaries::appendsLast);
        Sentence.promise(20, "This is an edit.", BraidBoundaries::appendIsEdit);
        Sentence.promise(20, "`crossing`: a crossing", BraidBoundaries::crossings);
        Sentence.promise(20, "Returns the new number of crossings", BraidBoundaries::appendReturnsNumber);
        Sentence.promise(20, "INVALID_ARGUMENT if crossing is out of range or 0", BraidBoundaries::appendRefusesArguments);
        Sentence.promise(20, "LIMIT_REACHED if there are 12 crossings.", BraidBoundaries::appendReachesLimit);
    }

    private static void appendsLast() {
        Bench.after("setStrands(4); appendCrossing(3); appendCrossing(-2); appendCrossing(1); removeCrossing() = 1; removeCrossing() = 2; "
            + "appendCrossing(2); removeCrossing() = 2; removeCrossing() = 3; removeCrossing() = NOT_FOUND");
        // The 12th stands behind the 11 others.
        Bench.after("setStrands(3); " + "appendCrossing(1); ".repeat(11) + "appendCrossing(-2) = 12; removeCrossing() = 2; removeCrossing() = 1");
    }

    private static void appendIsEdit() {
        Expect.edit("appendCrossing(1)", Check.LIMIT);
        Expect.edit("appendCrossing(-1)", Check.LIMIT);
        Bench.after("appendCrossing(1) = 4; undo() = 0; crossingCount() = 3; undo() = NOT_FOUND");
        // The 12th crossing, undone and appended again.
        Bench.after("appendCrossing(1); ".repeat(9) + "undo() = 4; crossingCount() = 11; appendCrossing(-1) = 12; appendCrossing(1) = LIMIT_REACHED; "
            + "undo() = 4; crossingCount() = 11");
    }

    private static void crossings() {
        for (int strands : STRANDS) {
            for (int crossing = 1; crossing < strands; crossing++) {
                String set = "setStrands(" + strands + "); ";
                Bench.after(set).due("appendCrossing(" + crossing + ")", 1).due("removeCrossing()", crossing);
                Bench.after(set).due("appendCrossing(" + -crossing + ")", 1).due("removeCrossing()", crossing);
            }
        }
    }

    private static void appendReturnsNumber() {
        Bench bench = Bench.after("appendCrossing(1) = 4; setStrands(4)");
        for (int count = 1; count <= 12; count++) {
            bench.due("appendCrossing(" + (count % 2 == 0 ? 3 : -3) + ")", count).due("crossingCount()", count);
        }
    }

    private static void appendRefusesArguments() {
        for (int strands : STRANDS) {
            String set = "setStrands(" + strands + "); appendCrossing(-1); ";
            Expect.refusedArgument(set, "appendCrossing(0)");
            for (int wrong : Expect.outside(1 - strands, strands - 1)) {
                Expect.refusedArgument(set, "appendCrossing(" + wrong + ")");
            }
        }
        // INVALID_ARGUMENT goes before LIMIT_REACHED.
        int[] wrongs = {0, 3, -3, 4, -4, Integer.MIN_VALUE, Integer.MAX_VALUE};
        for (int wrong : wrongs) {
            Expect.refusedArgument(Expect.FULL_BRAID, "appendCrossing(" + wrong + ")");
        }
    }

    private static void appendReachesLimit() {
        int[] good = {-2, -1, 1, 2};
        for (int crossing : good) {
            Expect.refused(Expect.FULL_BRAID, "appendCrossing(" + crossing + ")", Check.LIMIT);
        }
        Bench.after("appendCrossing(1); ".repeat(8) + "crossingCount() = 11; appendCrossing(1) = 12; appendCrossing(1) = LIMIT_REACHED; "
            + "crossingCount() = 12; appendCrossing(-1) = LIMIT_REACHED; removeCrossing() = 1; appendCrossing(-1) = 12; appendCrossing(1) = LIMIT_REACHED");
        // The limit does not hang on the operation.
        Bench.after(Expect.FULL_BRAID + "setEntry(0, 0, 1); appendCrossing(1) = LIMIT_REACHED");
    }

    private static void removeCrossing() {
        Sentence.promise(21, "Removes the last crossing.", BraidBoundaries::removesLast);
        Sentence.promise(21, "This is an edit.", BraidBoundaries::removeIsEdit);
        Sentence.promise(21, "Returns the absolute value of the removed crossing", BraidBoundaries::removeReturnsAbsolute);
        Sentence.promise(21, "NOT_FOUND if there is none.", BraidBoundaries::removeFindsNone);
    }

    private static void removesLast() {
        Bench.after("setStrands(4); appendCrossing(1); appendCrossing(2); appendCrossing(3); removeCrossing() = 3; crossingCount() = 2; "
            + "removeCrossing() = 2; crossingCount() = 1; removeCrossing() = 1; crossingCount() = 0");
        // From a full braid down to an empty one.
        Bench bench = Bench.after(Expect.FULL_BRAID);
        for (int left = 11; left >= 0; left--) {
            bench.due("removeCrossing()", left % 3 == 0 ? 1 : 2).due("crossingCount()", left);
        }
        bench.run("removeCrossing() = NOT_FOUND; crossingCount() = 0; coloringCount() = 125");
    }

    private static void removeIsEdit() {
        Expect.edit("removeCrossing()", Check.NONE);
        Bench.after("removeCrossing(); removeCrossing(); removeCrossing(); undo() = 2; crossingCount() = 1; undo() = 1; undo() = 0; "
            + "crossingCount() = 3; undo() = NOT_FOUND");
        Bench.after(Expect.FULL_BRAID + "removeCrossing() = 2; undo() = 4; crossingCount() = 12; appendCrossing(1) = LIMIT_REACHED");
        // The removed crossing comes back with its sign, also if another one was appended in its place.
        String braid = "loadCyclicRack(3); setStrands(2); appendCrossing(1); appendCrossing(-1); coloringCount() = 9; ";
        Bench.after(braid + "removeCrossing() = 1; appendCrossing(1); coloringCount() = 0; undo(); undo(); coloringCount() = 9");
    }

    private static void removeReturnsAbsolute() {
        for (int crossing = 1; crossing <= 3; crossing++) {
            Bench.after("setStrands(4); appendCrossing(-" + crossing + ")").due("removeCrossing()", crossing);
            Bench.after("setStrands(4); appendCrossing(" + crossing + ")").due("removeCrossing()", crossing);
        }
    }

    private static void removeFindsNone() {
        Expect.refused(Expect.EMPTY_BRAID, "removeCrossing()", Check.NONE);
        Expect.refused("setStrands(2); ", "removeCrossing()", Check.NONE);
        Expect.refused("removeCrossing(); removeCrossing(); removeCrossing(); ", "removeCrossing()", Check.NONE);
        Expect.refused(Expect.BROKEN + "setStrands(4); ", "removeCrossing()", Check.NONE);
        Bench.after("setStrands(3); removeCrossing() = NOT_FOUND; undo() = 0; removeCrossing() = 1");
    }

    private static void crossingCount() {
        Bench bench = Bench.after("crossingCount() = 3; setStrands(4); crossingCount() = 0");
        for (int count = 1; count <= 12; count++) {
            bench.run("appendCrossing(3)").due("crossingCount()", count);
        }
        bench.run("appendCrossing(3) = LIMIT_REACHED; crossingCount() = 12; removeCrossing(); crossingCount() = 11; undo(); crossingCount() = 12");
        Bench.after(Expect.BROKEN).run("crossingCount() = 4; loadTrivial(1); crossingCount() = 4");
        Expect.readsOnly("crossingCount()");
    }

    private static void coloringNumbers() {
        for (int size = 1; size <= 6; size++) {
            for (int strands : STRANDS) {
                // No crossing: every assignment. One component of a trivial quandle: one color.
                Bench bench = Bench.after("loadTrivial(" + size + "); setStrands(" + strands + ")");
                bench.due("coloringCount()", power(size, strands));
                for (int crossing = 1; crossing < strands; crossing++) {
                    bench.run("appendCrossing(" + crossing + ")");
                }
                bench.due("coloringCount()", size);
            }
        }
        // None at all: in a cyclic rack, a single crossing would need x + 1 = x.
        Bench.after("loadCyclicRack(6); setStrands(2); appendCrossing(1); coloringCount() = 0; loadCyclicRack(1); coloringCount() = 1");
        // A full braid: (a, b) becomes (a + 6, b + 6) behind 12 crossings.
        String full = Bench.braidCalls(2, 1, 1, 1, 1, 1, 1, 1, 1, 1, 1, 1, 1);
        Bench.after(full + "loadCyclicRack(6); coloringCount() = 36; loadCyclicRack(3); coloringCount() = 9; loadCyclicRack(4); coloringCount() = 0");
        Bench.after(full + "loadCyclicRack(4); removeCrossing(); removeCrossing(); removeCrossing(); removeCrossing(); coloringCount() = 16");
    }

    private static void coloringCountNeedsInvertibility() {
        String[] braids = {
            Bench.braidCalls(2), Bench.braidCalls(4), Bench.braidCalls(2, 1), Bench.braidCalls(2, -1), Bench.braidCalls(3, 2, 1, 2),
            Bench.braidCalls(2, 1, 1, 1, 1, 1, 1, 1, 1, 1, 1, 1, 1),
        };
        for (String braid : braids) {
            Bench.after("loadTrivial(6); setEntry(5, 5, 0); " + braid + "coloringCount() = INVALID_STATE");
            Bench.after("loadTrivial(2); setEntry(0, 0, 1); " + braid + "coloringCount() = INVALID_STATE");
        }
        Expect.refused("setEntry(0, 0, 1); ", "coloringCount()", Check.BAD_STATE);
        Expect.refused(Expect.BROKEN, "coloringCount()", Check.BAD_STATE);
        Bench.after("setEntry(0, 0, 1); coloringCount() = INVALID_STATE; setEntry(0, 0, 0); coloringCount() = 9");
    }

    private static void nextColoring() {
        Sentence.promise(24, "Finds a coloring of the closed braid.", () -> Expect.readsOnly("nextColoring(2)"));
        Sentence.promise(24, "`from`: 0 or more", BraidBoundaries::fromNumbers);
        Sentence.promise(24, "Returns the least code of a coloring that is at least from", BraidBoundaries::leastCodes);
        Sentence.promise(24, "INVALID_ARGUMENT if from is negative", BraidBoundaries::fromNegative);
        Sentence.promise(24, "INVALID_STATE if the operation is not invertible", BraidBoundaries::nextNeedsInvertibility);
        Sentence.promise(24, "NOT_FOUND if there is no such coloring.", BraidBoundaries::noSuchColoring);
    }

    private static void fromNumbers() {
        Bench.after("nextColoring(0) = 0; nextColoring(8) = 8; nextColoring(2147483647) = NOT_FOUND; nextColoring(2147483646) = NOT_FOUND; "
            + "nextColoring(-1) = INVALID_ARGUMENT; nextColoring(65536) = NOT_FOUND; nextColoring(256) = NOT_FOUND; nextColoring(1073741824) = NOT_FOUND");
    }

    private static void leastCodes() {
        // Equal colors alone: the code of (c, c) is 6 c + c.
        Bench bench = Bench.after("loadTrivial(6); setStrands(2); appendCrossing(-1)").dueColorings(0, 7, 14, 21, 28, 35);
        bench.run("nextColoring(7) = 7; nextColoring(8) = 14; nextColoring(35) = 35; nextColoring(29) = 35; nextColoring(36) = NOT_FOUND");
        // The least code is not 0 where 0 * 0 is not 0: the column of 0 is the cycle of 0, 1, 2.
        Bench.after(Bench.tableCalls("1 0 0 / 2 1 1 / 0 2 2") + "nextColoring(0) = 4; nextColoring(4) = 4; nextColoring(5) = 8; nextColoring(9) = NOT_FOUND");
        Bench.after("loadTrivial(1); setStrands(4); nextColoring(0) = 0; nextColoring(1) = NOT_FOUND");
        Bench.after("loadTrivial(6); setStrands(4); nextColoring(0) = 0; nextColoring(1295) = 1295; nextColoring(1296) = NOT_FOUND");
    }

    private static void fromNegative() {
        int[] wrongs = {-1, -2, -9, -1296, -65536, Integer.MIN_VALUE, Integer.MIN_VALUE + 1};
        for (int wrong : wrongs) {
            // INVALID_ARGUMENT goes before INVALID_STATE and NOT_FOUND: two of these states have no coloring to find.
            Expect.refusedAlways("nextColoring(" + wrong + ")");
            Expect.refusedArgument("loadCyclicRack(2); setStrands(2); appendCrossing(1); ", "nextColoring(" + wrong + ")");
        }
    }

    private static void nextNeedsInvertibility() {
        // INVALID_STATE goes before NOT_FOUND.
        int[] froms = {0, 1, 124, 125, 1296, Integer.MAX_VALUE};
        for (int from : froms) {
            Expect.refused(Expect.BROKEN, "nextColoring(" + from + ")", Check.BAD_STATE);
            Expect.refused("loadTrivial(6); setEntry(0, 5, 1); setStrands(2); ", "nextColoring(" + from + ")", Check.BAD_STATE);
        }
    }

    private static void noSuchColoring() {
        for (int size = 1; size <= 6; size++) {
            for (int strands : STRANDS) {
                int codes = power(size, strands);
                Bench.after("loadTrivial(" + size + "); setStrands(" + strands + ")").due("nextColoring(" + (codes - 1) + ")", codes - 1)
                    .due("nextColoring(" + codes + ")", Check.NONE);
            }
        }
        Expect.refused(Expect.NEW, "nextColoring(9)", Check.NONE);
        Expect.refused(Expect.FULL, "nextColoring(125)", Check.NONE);
        Expect.refused(Expect.FULL, "nextColoring(2147483647)", Check.NONE);
        Expect.refused("loadCyclicRack(2); setStrands(2); appendCrossing(1); ", "nextColoring(0)", Check.NONE);
        // The colors of the trefoil are equal: in size 5 the last code is 24, in size 6 there are 28 and 35 behind it.
        Bench.after("loadTrivial(6); loadTrivial(5); nextColoring(24) = 24; nextColoring(25) = NOT_FOUND; undo(); nextColoring(25) = 28");
    }

    static int power(int base, int exponent) {
        int power = 1;
        for (int i = 0; i < exponent; i++) {
            power *= base;
        }
        return power;
    }
}
