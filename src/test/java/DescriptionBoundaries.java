/** The part "Description", sentence by sentence. */
final class DescriptionBoundaries {
    private DescriptionBoundaries() {
    }

    static void run() {
        operation();
        innerStructure();
        braid();
        weights();
        history();
        constants();
    }

    private static void operation() {
        Sentence.description("The operation has the elements 0, ..., n - 1, where the size n is from 1 to 6.", DescriptionBoundaries::sizes);
        Sentence.description("The table contains an element x * y for each pair of elements x, y; x is the left operand.",
            DescriptionBoundaries::tableCells);
        Sentence.description("Initially the operation is that of the dihedral quandle of size 3.",
            () -> new Bench().dueTable("0 2 1 / 2 1 0 / 1 0 2"));
        Sentence.description("The column of y is the map that sends each x to x * y.", DescriptionBoundaries::columns);
        Sentence.description("The operation is invertible if each column is a bijection.", DescriptionBoundaries::invertible);
        Sentence.description("For an invertible operation, x / y denotes the element u with u * y = x.", DescriptionBoundaries::quotients);
        Sentence.description("The operation is distributive if (x * y) * z = (x * z) * (y * z) for all x, y, z.",
            DescriptionBoundaries::distributive);
        Sentence.description("It is idempotent if x * x = x for all x.", DescriptionBoundaries::idempotent);
        Sentence.description("A rack is an invertible and distributive operation; a quandle is an idempotent rack.",
            DescriptionBoundaries::racksAndQuandles);
    }

    private static void sizes() {
        for (int n = 1; n <= 6; n++) {
            int last = n - 1;
            Bench bench = Bench.after("loadTrivial(" + n + ")").due("size()", n);
            bench.due("entry(0, 0)", 0).due("entry(" + last + ", " + last + ")", last).due("entry(" + last + ", 0)", last);
            bench.due("entry(" + n + ", 0)", Check.BAD_ARGUMENT).due("entry(0, " + n + ")", Check.BAD_ARGUMENT);
            bench.due("entry(-1, 0)", Check.BAD_ARGUMENT).due("entry(0, -1)", Check.BAD_ARGUMENT);
        }
        Bench.after("loadTrivial(0) = INVALID_ARGUMENT; loadTrivial(7) = INVALID_ARGUMENT; size() = 3");
    }

    private static void tableCells() {
        // All 36 places hold their own entry.
        String rows = "5 4 3 2 1 0 / 0 1 2 3 4 5 / 1 1 0 0 5 5 / 2 3 2 3 2 3 / 4 0 4 0 4 0 / 3 5 1 5 3 1";
        Bench.after(Bench.tableCalls(rows)).dueTable(rows);
        Bench.after("setEntry(0, 2, 0); entry(0, 2) = 0; entry(2, 0) = 1");
        Bench.after("loadTrivial(6); setEntry(5, 0, 1); entry(5, 0) = 1; entry(0, 5) = 0; setEntry(0, 5, 2); entry(0, 5) = 2; entry(5, 0) = 1");
    }

    /** x * y = x has constant rows and x * y = y has constant columns. */
    private static void columns() {
        Bench.after(Bench.tableCalls("0 0 / 1 1")).run("nonInvertibleColumn() = NOT_FOUND");
        Bench.after(Bench.tableCalls("0 1 / 0 1")).run("nonInvertibleColumn() = 0");
        Bench.after(Bench.tableCalls("0 0 0 / 1 1 1 / 2 2 1")).run("nonInvertibleColumn() = 2");
        Bench.after(Bench.tableCalls("0 0 0 / 1 1 1 / 1 2 2")).run("nonInvertibleColumn() = 0");
    }

    private static void invertible() {
        String[] needing = {"loadDual()", "quotient(0, 0)", "innerGroupOrder()", "coloringCount()", "nextColoring(0)", "stateSum(0)"};
        for (int size = 2; size <= 6; size++) {
            for (int column = 0; column < size; column++) {
                // One column alone is no bijection.
                String run = "loadTrivial(" + size + "); setEntry(" + (size - 1) + ", " + column + ", 0); ";
                for (String call : needing) {
                    Bench.after(run).due(call, Check.BAD_STATE);
                }
                // Behind the second exchange it is one again.
                Bench.after(run + "setEntry(0, " + column + ", " + (size - 1) + "); quotient(0, 0); innerGroupOrder() = 2; loadDual()");
            }
        }
        for (String call : needing) {
            Bench.after("loadTrivial(1); setEntry(0, 0, 0)").run(call);
        }
    }

    private static void quotients() {
        Bench.after("loadCyclicRack(6); quotient(0, 0) = 5; quotient(5, 0) = 4; quotient(0, 5) = 5; loadCyclicRack(1); quotient(0, 0) = 0");
        // u * 4 = 0 for u = 2, while 0 * 4 = 1 and 4 * 0 = 3.
        Bench.after("loadAlexander(5, 2); quotient(0, 4) = 2; entry(2, 4) = 0; entry(0, 4) = 1; quotient(4, 0) = 2; entry(4, 0) = 3");
    }

    private static void distributive() {
        // A single triple is enough, the first or the last one.
        Bench.after(Bench.tableCalls(LawsBoundaries.ONE_VIOLATION[0])).run("distributivityViolation() = 0; kind() = 0");
        Bench.after(Bench.tableCalls(LawsBoundaries.ONE_VIOLATION[26])).run("distributivityViolation() = 86; kind() = 0");
        Bench.after(LawsBoundaries.LAST_VIOLATION).run("distributivityViolation() = 215; kind() = 0");
        Bench.after("loadTrivial(1); distributivityViolation() = NOT_FOUND");
    }

    private static void idempotent() {
        // A single element is enough, the first or the last one.
        Bench.after("loadTrivial(6); setEntry(0, 0, 5); idempotencyViolation() = 0");
        Bench.after("loadTrivial(6); setEntry(5, 5, 0); idempotencyViolation() = 5");
        Bench.after("loadTrivial(6); setEntry(5, 0, 0); setEntry(0, 5, 5); idempotencyViolation() = NOT_FOUND");
    }

    private static void racksAndQuandles() {
        Bench.after("kind() = 2; loadCyclicRack(1); kind() = 2; loadCyclicRack(2); kind() = 1; loadCyclicRack(6); kind() = 1");
        // Distributive and idempotent, but not invertible; invertible and idempotent, but not distributive.
        Bench.after(Bench.tableCalls("0 0 / 0 1")).run("distributivityViolation() = NOT_FOUND; idempotencyViolation() = NOT_FOUND; kind() = 0");
        Bench.after(Bench.tableCalls("0 0 1 / 2 1 0 / 1 2 2")).run("nonInvertibleColumn() = NOT_FOUND; idempotencyViolation() = NOT_FOUND; kind() = 0");
    }

    private static void innerStructure() {
        Sentence.description("The orbit of an element x is the least set that contains x and, with each element u, all elements u * y, "
            + "and, if the operation is invertible, all elements u / y.", DescriptionBoundaries::orbits);
        Sentence.description("The operation is connected if the orbit of 0 contains all elements.", DescriptionBoundaries::connected);
        Sentence.description("For an invertible operation, the inner group is the group of permutations of the elements that is generated by all columns.",
            DescriptionBoundaries::innerGroup);
        Sentence.description("An automorphism is a bijection p of the elements with p(x * y) = p(x) * p(y) for all x, y.",
            DescriptionBoundaries::automorphisms);
    }

    private static void orbits() {
        // x itself, though nothing leads to it: all products are 0.
        Bench.after(Bench.tableCalls("0 0 0 / 0 0 0 / 0 0 0")).run("orbit(0) = 1; orbit(1) = 3; orbit(2) = 5");
        // Not invertible: the chain 0, 1, ..., 5 leads to its end alone, by the last column.
        String chain = "loadTrivial(6); setEntry(0, 5, 1); setEntry(1, 5, 2); setEntry(2, 5, 3); setEntry(3, 5, 4); setEntry(4, 5, 5); ";
        Bench.after(chain + "orbit(0) = 63; orbit(1) = 62; orbit(4) = 48; orbit(5) = 32");
        // Invertible: the chain is closed to a cycle, downwards too.
        Bench.after(chain + "setEntry(5, 5, 0); orbit(0) = 63; orbit(1) = 63; orbit(4) = 63; orbit(5) = 63; loadDual(); orbit(5) = 63; orbit(0) = 63");
        // u is the left operand: 1 * 0 = 2 leads from 1, not from 0.
        Bench.after("loadTrivial(3); setEntry(1, 0, 2); orbit(0) = 1; orbit(1) = 6; orbit(2) = 4");
    }

    private static void connected() {
        for (int size = 1; size <= 6; size++) {
            Bench.after("loadCyclicRack(" + size + ")").due("orbit(0)", (1 << size) - 1);
            Bench.after("loadTrivial(" + size + ")").due("orbit(0)", 1);
        }
        Bench.after("loadDihedral(5); orbit(0) = 31; loadDihedral(6); orbit(0) = 21; loadDihedral(2); orbit(0) = 1; loadDihedral(1); orbit(0) = 1");
    }

    private static void innerGroup() {
        for (int size = 2; size <= 6; size++) {
            for (int column = 0; column < size; column++) {
                // One column alone, the first or the last one, generates a group: a swap has two elements.
                String swap = "setEntry(0, " + column + ", 1); setEntry(1, " + column + ", 0); ";
                Bench.after("loadTrivial(" + size + "); innerGroupOrder() = 1; " + swap + "innerGroupOrder() = 2");
            }
        }
        Bench.after("loadTrivial(1); innerGroupOrder() = 1; loadCyclicRack(6); innerGroupOrder() = 6; loadAlexander(5, 2); innerGroupOrder() = 20");
        // Two swaps that share no element commute, two that share one do not.
        Bench.after("loadTrivial(4); setEntry(0, 0, 1); setEntry(1, 0, 0); setEntry(2, 3, 3); setEntry(3, 3, 2); innerGroupOrder() = 4");
        Bench.after("loadTrivial(4); setEntry(0, 0, 1); setEntry(1, 0, 0); setEntry(1, 3, 2); setEntry(2, 3, 1); innerGroupOrder() = 6");
    }

    private static void automorphisms() {
        Bench.after("loadTrivial(1); automorphismCount() = 1; loadTrivial(6); automorphismCount() = 720");
        // One pair alone, the first or the last one, allows no more than the bijections that fix it.
        Bench.after("loadTrivial(6); setEntry(0, 0, 5); automorphismCount() = 24");
        Bench.after("loadTrivial(6); setEntry(5, 5, 0); automorphismCount() = 24");
        Bench.after("loadTrivial(6); setEntry(5, 0, 0); automorphismCount() = 24");
        Bench.after("loadTrivial(6); setEntry(5, 0, 3); automorphismCount() = 6");
        // Bijections alone: all 27 maps would keep x * y = x.
        Bench.after("loadTrivial(3); automorphismCount() = 6");
    }

    private static void braid() {
        Sentence.description("The braid has s strands, s from 2 to 4, in the positions 0, ..., s - 1, and a list of at most 12 crossings.",
            DescriptionBoundaries::strandsAndCrossings);
        Sentence.description("A crossing is a number g from -(s - 1) to s - 1 other than 0; it acts on the positions |g| - 1 and |g|.",
            DescriptionBoundaries::crossingNumbers);
        Sentence.description("Initially the braid has 2 strands and the crossings 1, 1, 1.", DescriptionBoundaries::initialBraid);
        Sentence.description("A coloring assigns an element to each position at the top.", DescriptionBoundaries::assignments);
        Sentence.description("The crossings are passed from the first to the last one.", DescriptionBoundaries::orderOfCrossings);
        Sentence.description("Let a be the color in position |g| - 1 and b the color in position |g| before a crossing. "
            + "Behind a crossing g > 0 these two colors are b and a * b (b in position |g| - 1).", DescriptionBoundaries::positiveCrossings);
        Sentence.description("Behind a crossing g < 0 they are b / a and a (b / a in position |g| - 1).", DescriptionBoundaries::negativeCrossings);
        Sentence.description("The other colors stay.", DescriptionBoundaries::otherColors);
        Sentence.description("An assignment is a coloring of the closed braid if the colors behind the last crossing are the same, "
            + "position by position, as those at the top.", DescriptionBoundaries::closedBraid);
        Sentence.description("The code of an assignment with the colors c0, c1, ... in the positions 0, 1, ... is the number with these digits in base n, "
            + "where c0 is the most significant digit.", DescriptionBoundaries::codes);
    }

    private static void strandsAndCrossings() {
        for (int strands = 2; strands <= 4; strands++) {
            int last = strands - 1;
            Bench bench = Bench.after("loadTrivial(2); setStrands(" + strands + ")").due("coloringCount()", 1 << strands);
            for (int count = 1; count <= 12; count++) {
                bench.due("appendCrossing(" + last + ")", count);
            }
            bench.due("appendCrossing(" + last + ")", Check.LIMIT).due("crossingCount()", 12).due("coloringCount()", 1 << strands);
        }
        Bench.after("setStrands(1) = INVALID_ARGUMENT; setStrands(5) = INVALID_ARGUMENT; setStrands(2) = 2; coloringCount() = 9");
    }

    private static void crossingNumbers() {
        for (int strands = 2; strands <= 4; strands++) {
            for (int g = -6; g <= 6; g++) {
                boolean good = g != 0 && -strands < g && g < strands;
                Bench.after("setStrands(" + strands + ")").due("appendCrossing(" + g + ")", good ? 1 : Check.BAD_ARGUMENT);
            }
            Bench.after("setStrands(" + strands + "); appendCrossing(-2147483648) = INVALID_ARGUMENT; appendCrossing(2147483647) = INVALID_ARGUMENT");
        }
        // In a trivial quandle a crossing swaps two colors, so these have to be equal, and the others are free.
        int[][] codes = {{0, 1, 2, 3, 12, 13, 14, 15}, {0, 1, 6, 7, 8, 9, 14, 15}, {0, 3, 4, 7, 8, 11, 12, 15}};
        for (int g = 1; g <= 3; g++) {
            Bench.after("loadTrivial(2); setStrands(4); appendCrossing(" + g + ")").dueColorings(codes[g - 1]);
            Bench.after("loadTrivial(2); setStrands(4); appendCrossing(-" + g + ")").dueColorings(codes[g - 1]);
        }
    }

    private static void initialBraid() {
        Bench.after("crossingCount() = 3; removeCrossing() = 1; removeCrossing() = 1; removeCrossing() = 1; removeCrossing() = NOT_FOUND; setStrands(2) = 2");
        // The crossings are positive: the weight is added three times in all, not taken away.
        Bench.after("loadTrivial(1); setModulus(12); setWeight(0, 0, 1); stateSum(3) = 1; stateSum(9) = 0");
    }

    private static void assignments() {
        for (int size = 1; size <= 6; size++) {
            for (int strands = 2; strands <= 4; strands++) {
                Bench.after("loadCyclicRack(" + size + "); setStrands(" + strands + ")").due("coloringCount()", BraidBoundaries.power(size, strands));
            }
        }
    }

    /** (0, 0, 2) becomes (0, 2, 0 * 2 = 2) behind 2, and (2 / 0 = 0, 0, 2) behind -1; the other order has other colorings. */
    private static void orderOfCrossings() {
        String table = Bench.tableCalls("2 2 2 / 0 0 1 / 1 1 0");
        Bench.after(table + Bench.braidCalls(3, 2, -1)).dueColorings(2, 12);
        Bench.after(table + Bench.braidCalls(3, -1, 2)).dueColorings(8, 9);
        // In a full braid, too: ten crossings that cancel stand before, between or behind them.
        Bench.after(table + Bench.braidCalls(3, 1, -1, 1, -1, 1, -1, 1, -1, 1, -1, 2, -1)).dueColorings(2, 12);
        Bench.after(table + Bench.braidCalls(3, -1, 1, -1, 1, -1, 1, -1, 1, -1, 1, -1, 2)).dueColorings(8, 9);
        Bench.after(table + Bench.braidCalls(3, -1, 2, 1, -1, 1, -1, 1, -1, 1, -1, 1, -1)).dueColorings(8, 9);
    }

    /** (0, 1), (1, 0 * 1 = 2), (2, 1 * 2 = 2), (2, 2 * 2 = 0), (0, 2 * 0 = 1): this cycle has all colorings. */
    private static void positiveCrossings() {
        Bench.after(Bench.tableCalls("2 2 1 / 0 0 2 / 1 1 0") + Bench.braidCalls(2, 1, 1, 1, 1)).dueColorings(1, 5, 6, 8);
        // The same in the positions 2 and 3, the others being free.
        Bench.after(Bench.tableCalls("2 2 1 / 0 0 2 / 1 1 0") + Bench.braidCalls(3, 2, 2, 2, 2)).dueColorings(1, 5, 6, 8, 10, 14, 15, 17, 19, 23, 24, 26);
    }

    /** (0, 2), (2 / 0 = 1, 0), (0 / 1 = 1, 1), (1 / 1 = 2, 1), (1 / 2 = 0, 2): this cycle has all colorings. */
    private static void negativeCrossings() {
        Bench.after(Bench.tableCalls("1 2 1 / 2 0 2 / 0 1 0") + Bench.braidCalls(2, -1, -1, -1, -1)).dueColorings(2, 3, 4, 7);
        Bench.after(Bench.tableCalls("1 2 1 / 2 0 2 / 0 1 0") + Bench.braidCalls(3, -2, -2, -2, -2)).dueColorings(2, 3, 4, 7, 11, 12, 13, 16, 20, 21, 22, 25);
        // A crossing and its negative cancel, in both orders and for every operation that is invertible.
        Bench.after(Bench.tableCalls("1 2 1 / 2 0 2 / 0 1 0") + Bench.braidCalls(2, 1, -1)).run("coloringCount() = 9");
        Bench.after(Bench.tableCalls("1 2 1 / 2 0 2 / 0 1 0") + Bench.braidCalls(2, -1, 1)).run("coloringCount() = 9");
    }

    private static void otherColors() {
        // (c, d, d, e), (d, d, c, e) and (c, e, d, d).
        Bench.after("loadDihedral(5); setStrands(4); appendCrossing(2); coloringCount() = 125; nextColoring(1) = 1; nextColoring(5) = 30");
        Bench.after("loadDihedral(5); setStrands(4); appendCrossing(-1); coloringCount() = 125; nextColoring(24) = 24; nextColoring(25) = 150");
        Bench.after("loadDihedral(5); setStrands(4); appendCrossing(3); coloringCount() = 125; nextColoring(1) = 6; nextColoring(25) = 25");
    }

    private static void closedBraid() {
        // No crossing: every assignment.
        Bench.after("loadTrivial(2); setStrands(2)").dueColorings(0, 1, 2, 3);
        // The colors go round: only where all are equal each position has its own again.
        Bench.after("loadTrivial(2); " + Bench.braidCalls(4, 1, 2, 3)).dueColorings(0, 15);
        Bench.after("loadTrivial(2); " + Bench.braidCalls(4, 3, 2, 1)).dueColorings(0, 15);
        // The last position alone, or the first one alone, comes back with another color.
        Bench.after(Bench.tableCalls("1 1 / 0 0") + Bench.braidCalls(3, 2, 2, 2, 2)).dueColorings(0, 1, 2, 3, 4, 5, 6, 7);
        Bench.after(Bench.tableCalls("0 1 / 1 0") + Bench.braidCalls(2, 1, 1)).dueColorings(0);
    }

    private static void codes() {
        // (c, d, d) in base 6 and (d, d, c) in base 5: the first digit counts most.
        Bench.after("loadTrivial(6); setStrands(3); appendCrossing(2); nextColoring(1) = 7; nextColoring(36) = 36; nextColoring(37) = 43; nextColoring(180) = 180; "
            + "nextColoring(209) = 215; nextColoring(216) = NOT_FOUND");
        Bench.after("loadTrivial(5); setStrands(3); appendCrossing(1); nextColoring(4) = 4; nextColoring(5) = 30; nextColoring(35) = 60; nextColoring(95) = 120; "
            + "nextColoring(124) = 124; nextColoring(125) = NOT_FOUND");
        // The least and the greatest code, for the least and the greatest base.
        Bench.after("loadTrivial(1); setStrands(4); nextColoring(0) = 0; nextColoring(1) = NOT_FOUND");
        Bench.after("loadTrivial(6); setStrands(4); nextColoring(1295) = 1295; nextColoring(1296) = NOT_FOUND");
    }

    private static void weights() {
        Sentence.description("The modulus m is from 2 to 12; each pair of elements has a weight from 0 to m - 1.", DescriptionBoundaries::moduli);
        Sentence.description("Initially m is 3 and all weights are 0.",
            () -> Bench.after("stateSum(2) = 0; stateSum(3) = INVALID_ARGUMENT").dueWeights("0 0 0 / 0 0 0 / 0 0 0").run("setModulus(2) = 3"));
        Sentence.description("All sums and differences of weights are taken modulo m, with a result from 0 to m - 1.", DescriptionBoundaries::sumsModulo);
        Sentence.description("The weights form a cocycle if weight(x, y) + weight(x * y, z) = weight(x, z) + weight(x * z, y * z) modulo m, for all x, y, z.",
            DescriptionBoundaries::cocycles);
        Sentence.description("The total weight of a coloring is the sum, over all crossings, of weight(a, b) for a crossing g > 0, "
            + "and of the negative of weight(b / a, a) for a crossing g < 0, where a and b are the colors before the crossing as above.",
            DescriptionBoundaries::totalWeights);
    }

    private static void moduli() {
        for (int modulus = 2; modulus <= 12; modulus++) {
            int most = modulus - 1;
            Bench.after("loadConjugation(); setModulus(" + modulus + "); setWeight(5, 5, " + most + "); setWeight(0, 0, " + most + "); "
                + "setWeight(5, 0, 0)").due("weight(5, 5)", most).due("weight(0, 0)", most).due("weight(5, 0)", 0)
                .due("setWeight(5, 0, " + modulus + ")", Check.BAD_ARGUMENT).due("setWeight(0, 5, -1)", Check.BAD_ARGUMENT);
        }
        Bench.after("setModulus(1) = INVALID_ARGUMENT; setModulus(13) = INVALID_ARGUMENT; setModulus(3) = 3");
        // All 36 pairs hold their own weight.
        String rows = "5 4 3 2 1 0 / 0 1 2 3 4 5 / 6 7 8 9 10 11 / 11 10 9 8 7 6 / 4 0 4 0 4 0 / 3 5 1 5 3 1";
        Bench.after("loadTrivial(6); setModulus(12); " + Bench.weightCalls(rows)).dueWeights(rows);
    }

    private static void sumsModulo() {
        for (int modulus = 2; modulus <= 12; modulus++) {
            int most = modulus - 1;
            // Up from m - 1 by 1 to 0, and down from 0 by 1 to m - 1, at (0, 0) and (1, 0) of x * y = 1 - x.
            Bench.after("loadCyclicRack(2); setModulus(" + modulus + "); setWeight(0, 0, " + most + "); addCoboundary(0, 1)")
                .due("weight(0, 0)", 0).due("weight(1, 0)", most).due("weight(0, 1)", 1).due("weight(1, 1)", most);
            // Two crossings of m - 1 are m - 2, two negative ones of m - 1 are 2, modulo m.
            String weight = "loadTrivial(1); setModulus(" + modulus + "); setWeight(0, 0, " + most + "); ";
            Bench.after(Bench.braidCalls(2, 1, 1) + weight).due("stateSum(" + (modulus - 2) + ")", 1);
            Bench.after(Bench.braidCalls(2, -1, -1) + weight).due("stateSum(" + 2 % modulus + ")", 1);
            Bench.after(Bench.braidCalls(2, -1, 1) + weight).due("stateSum(0)", 1);
            Bench.after(Bench.braidCalls(2) + weight).due("stateSum(0)", 1);
        }
    }

    private static void cocycles() {
        // A single triple is enough, the first or the last one.
        String[] first = WeightsBoundaries.ONE_VIOLATION[0];
        String[] last = WeightsBoundaries.ONE_VIOLATION[26];
        Bench.after(Bench.tableCalls(first[0]) + "setModulus(2); " + Bench.weightCalls(first[1])).run("cocycleViolation() = 0");
        Bench.after(Bench.tableCalls(last[0]) + "setModulus(2); " + Bench.weightCalls(last[1])).run("cocycleViolation() = 86");
        for (int modulus = 2; modulus <= 12; modulus++) {
            int most = modulus - 1;
            // Where x * y = 0, weight(x, y) + weight(0, z) = weight(x, z) + weight(0, 0) is broken at 0, 1, 0 and at 1, 0, 1.
            String set = Bench.tableCalls("0 0 / 0 0") + "setModulus(" + modulus + "); ";
            Bench.after(set + "setWeight(0, 1, " + most + "); cocycleViolation() = 6");
            Bench.after(set + "setWeight(1, 1, " + most + "); cocycleViolation() = 37");
            Bench.after(set + "setWeight(1, 0, " + most + "); setWeight(1, 1, " + most + "); cocycleViolation() = NOT_FOUND");
            // Equal modulo m alone: at 1, 2, 1 the sides are weight(1, 2) + weight(0, 1) = m and weight(1, 1) + weight(1, 0) = 0.
            String weights = Bench.weightCalls("0 1 1 / 0 0 " + most + " / 0 " + most + " 0");
            Bench.after("setModulus(" + modulus + "); " + weights + "cocycleViolation() = NOT_FOUND");
        }
    }

    private static void totalWeights() {
        // (0, 0, 2): weight(0, 2) at the crossing 2, then -weight(2 / 0 = 0, 0) at -1. (1, 1, 0): weight(1, 0), then -weight(0 / 1 = 1, 1).
        String set = Bench.tableCalls("2 2 2 / 0 0 1 / 1 1 0") + Bench.braidCalls(3, 2, -1) + "setModulus(12); ";
        Bench.after(set + "setWeight(0, 2, 1); setWeight(0, 0, 5); setWeight(1, 0, 3); setWeight(1, 1, 4); stateSum(8) = 1; stateSum(11) = 1; stateSum(0) = 0");
        Bench.after(set + "setWeight(0, 2, 1); stateSum(1) = 1; stateSum(0) = 1");
        Bench.after(set + "setWeight(0, 0, 1); stateSum(11) = 1; stateSum(0) = 1");
        Bench.after(set + "setWeight(2, 0, 1); setWeight(0, 1, 1); setWeight(1, 2, 1); setWeight(2, 1, 1); setWeight(2, 2, 1); stateSum(0) = 2");
        // A crossing and its negative have no weight together: weight(a, b) is taken away again, not weight(b, a) or that of the colors between.
        String uneven = "loadAlexander(5, 2); setModulus(12); setWeight(0, 1, 1); setWeight(2, 0, 5); setWeight(4, 3, 11); setWeight(3, 3, 7); ";
        Bench.after(uneven + Bench.braidCalls(2, 1, -1) + "stateSum(0) = 25");
        Bench.after(uneven + Bench.braidCalls(2, -1, 1) + "stateSum(0) = 25");
        Bench.after(uneven + Bench.braidCalls(4, -3, 3, 2, -2) + "stateSum(0) = 625");
        // No crossing has no weight; all 12 count, the first and the last too.
        Bench.after("loadTrivial(1); setStrands(4); setWeight(0, 0, 1); stateSum(0) = 1");
        String tenThatCancel = "appendCrossing(1); appendCrossing(-1); ".repeat(5);
        Bench.after("loadTrivial(1); setModulus(12); setWeight(0, 0, 5); setStrands(2); appendCrossing(1); appendCrossing(1); " + tenThatCancel + "stateSum(10) = 1");
        Bench.after("loadTrivial(1); setModulus(12); setWeight(0, 0, 5); setStrands(2); " + tenThatCancel + "appendCrossing(-1); appendCrossing(-1); stateSum(2) = 1");
    }

    private static void history() {
        Sentence.description("All methods under the headings \"operation\", \"braid\" and \"weights\" below that do not just return a value "
            + "of the present state are edits, as stated there.", DescriptionBoundaries::edits);
        Sentence.description("The last 5 edits can be undone; an edit that changes nothing is an edit, too.", DescriptionBoundaries::lastEdits);
        Sentence.description("An edit that sets a new operation (all methods named load...) also sets all weights to 0.",
            DescriptionBoundaries::loadsClearWeights);
        Sentence.description("If several errors apply to a call, INVALID_ARGUMENT is returned rather than INVALID_STATE, INVALID_STATE rather than "
            + "LIMIT_REACHED, and LIMIT_REACHED rather than NOT_FOUND.", DescriptionBoundaries::severalErrors);
        Sentence.description("A call that returns an error changes nothing and is no edit.", DescriptionBoundaries::refusedCalls);
    }

    private static final String[] EDITS = {
        "loadTrivial(6)", "loadDihedral(5)", "loadAlexander(5, 2)", "loadConjugation()", "loadCyclicRack(4)", "loadDual()", "setEntry(0, 0, 0)",
        "setStrands(4)", "appendCrossing(1)", "removeCrossing()", "setModulus(5)", "setWeight(0, 0, 1)", "addCoboundary(0, 1)",
    };
    private static final String[] READINGS = {
        "size()", "entry(0, 0)", "quotient(0, 0)", "nonInvertibleColumn()", "distributivityViolation()", "idempotencyViolation()", "kind()",
        "orbit(0)", "innerGroupOrder()", "automorphismCount()", "crossingCount()", "coloringCount()", "nextColoring(0)", "weight(0, 0)",
        "cocycleViolation()", "stateSum(0)",
    };

    private static void edits() {
        for (String edit : EDITS) {
            Bench.after(edit + "; undo() = 0; undo() = NOT_FOUND");
            Bench.after("setWeight(1, 1, 1); setWeight(1, 1, 2); " + edit + "; undo() = 2; weight(1, 1) = 2; undo() = 1; weight(1, 1) = 1");
        }
        for (String reading : READINGS) {
            Bench bench = Bench.after("setWeight(1, 1, 1); setWeight(1, 1, 2)");
            bench.ask(reading);
            bench.run("undo() = 1; weight(1, 1) = 1; undo() = 0; undo() = NOT_FOUND");
        }
    }

    private static void lastEdits() {
        // Each kind of edit pushes the oldest of five out, and none pushes two.
        for (String edit : EDITS) {
            Bench.after("setModulus(12); setWeight(1, 1, 1); setWeight(1, 1, 2); setWeight(1, 1, 3); setWeight(1, 1, 4); " + edit
                + "; undo() = 4; weight(1, 1) = 4; undo() = 3; weight(1, 1) = 3; undo() = 2; weight(1, 1) = 2; undo() = 1; weight(1, 1) = 1; "
                + "undo() = 0; weight(1, 1) = 0; undo() = NOT_FOUND; setModulus(2) = 12");
        }
        // Exactly five: the state before them all is reached.
        Bench.after("setModulus(12); setWeight(1, 1, 1); setWeight(1, 1, 2); setWeight(1, 1, 3); setWeight(1, 1, 4); undo() = 4; undo() = 3; undo() = 2; "
            + "undo() = 1; undo() = 0; undo() = NOT_FOUND; setModulus(2) = 3");
        Bench.after("loadDihedral(3); loadAlexander(3, 2); loadDual(); setEntry(0, 0, 0); setWeight(0, 0, 0); undo() = 4; undo() = 3; undo() = 2; undo() = 1; "
            + "undo() = 0; undo() = NOT_FOUND");
        Bench.after("addCoboundary(0, 0); setModulus(3); setStrands(2); setStrands(2); undo() = 3; undo() = 2; crossingCount() = 3; undo() = 1; undo() = 0; "
            + "undo() = NOT_FOUND");
        // Those that change nothing fill the history, too.
        Bench.after("loadTrivial(6); " + "setEntry(0, 0, 0); ".repeat(5) + "undo() = 4; undo() = 3; undo() = 2; undo() = 1; undo() = 0; undo() = NOT_FOUND; size() = 6");
    }

    private static void loadsClearWeights() {
        String[] loads = {"loadTrivial(3)", "loadDihedral(3)", "loadAlexander(3, 2)", "loadCyclicRack(3)", "loadDual()"};
        for (String load : loads) {
            // The dihedral quandle itself and its dual change no entry, and the weights are 0 still.
            Bench.after(Bench.weightCalls("1 2 1 / 2 2 1 / 1 1 2") + load).dueWeights("0 0 0 / 0 0 0 / 0 0 0").run("undo()").dueWeights("1 2 1 / 2 2 1 / 1 1 2");
        }
        String none = "0 0 0 0 0 0 / 0 0 0 0 0 0 / 0 0 0 0 0 0 / 0 0 0 0 0 0 / 0 0 0 0 0 0 / 0 0 0 0 0 0";
        String all = "1 2 1 2 1 2 / 2 1 2 1 2 1 / 1 1 1 1 1 1 / 2 2 2 2 2 2 / 1 2 1 2 1 2 / 2 1 2 1 2 1";
        Bench.after("loadConjugation(); " + Bench.weightCalls(all) + "loadConjugation()").dueWeights(none);
        Bench.after("loadConjugation(); " + Bench.weightCalls(all) + "loadDual()").dueWeights(none);
        Bench.after("loadTrivial(6); " + Bench.weightCalls(all) + "loadTrivial(1); loadTrivial(6)").dueWeights(none);
        // The modulus stays, and so does the braid; a refused load clears nothing.
        Bench.after("setModulus(12); loadTrivial(1); setModulus(5) = 12; crossingCount() = 3");
        Bench.after("setWeight(0, 0, 2); loadTrivial(0) = INVALID_ARGUMENT; loadAlexander(4, 2) = INVALID_ARGUMENT; weight(0, 0) = 2; setEntry(0, 0, 1); "
            + "loadDual() = INVALID_STATE; weight(0, 0) = 2");
    }

    /** No call of the face can return both INVALID_STATE and LIMIT_REACHED, or both LIMIT_REACHED and NOT_FOUND. */
    private static void severalErrors() {
        Expect.refused(Expect.BROKEN, "quotient(5, 0)", Check.BAD_ARGUMENT);
        Expect.refused(Expect.BROKEN, "quotient(0, -1)", Check.BAD_ARGUMENT);
        Expect.refused(Expect.BROKEN, "quotient(0, 0)", Check.BAD_STATE);
        Expect.refused(Expect.BROKEN, "nextColoring(-1)", Check.BAD_ARGUMENT);
        Expect.refused(Expect.BROKEN, "nextColoring(2147483647)", Check.BAD_STATE);
        Expect.refused(Expect.BROKEN, "nextColoring(125)", Check.BAD_STATE);
        Expect.refused(Expect.FULL, "nextColoring(125)", Check.NONE);
        Expect.refused(Expect.BROKEN, "stateSum(7)", Check.BAD_ARGUMENT);
        Expect.refused(Expect.BROKEN, "stateSum(-1)", Check.BAD_ARGUMENT);
        Expect.refused(Expect.BROKEN, "stateSum(6)", Check.BAD_STATE);
        Expect.refused(Expect.FULL_BRAID, "appendCrossing(0)", Check.BAD_ARGUMENT);
        Expect.refused(Expect.FULL_BRAID, "appendCrossing(3)", Check.BAD_ARGUMENT);
        Expect.refused(Expect.FULL_BRAID, "appendCrossing(-3)", Check.BAD_ARGUMENT);
        Expect.refused(Expect.FULL_BRAID, "appendCrossing(2)", Check.LIMIT);
    }

    /** Every call that can return an error, from a history with room, a full one and one of which an edit was undone. */
    private static void refusedCalls() {
        String[] arguments = {
            "loadTrivial(0)", "loadDihedral(7)", "loadAlexander(7, 1)", "loadAlexander(5, 5)", "loadAlexander(6, 3)", "loadCyclicRack(0)",
            "setEntry(5, 0, 0)", "entry(0, 5)", "quotient(5, 0)", "orbit(5)", "setStrands(5)", "appendCrossing(0)", "nextColoring(-1)",
            "setModulus(13)", "setWeight(0, 0, 7)", "addCoboundary(0, 7)", "weight(5, 0)", "stateSum(7)",
        };
        for (String call : arguments) {
            Expect.refused(Expect.BUSY, call, Check.BAD_ARGUMENT);
            Expect.refused(Expect.FULL, call, Check.BAD_ARGUMENT);
            Expect.refused(Expect.FULL + "undo(); undo(); ", call, Check.BAD_ARGUMENT);
        }
        String[] states = {"loadDual()", "quotient(0, 0)", "innerGroupOrder()", "coloringCount()", "nextColoring(0)", "stateSum(0)"};
        for (String call : states) {
            Expect.refused(Expect.BROKEN, call, Check.BAD_STATE);
            Expect.refused(Expect.BROKEN + "appendCrossing(1); undo(); ", call, Check.BAD_STATE);
        }
        Expect.refused(Expect.FULL_BRAID, "appendCrossing(1)", Check.LIMIT);
        Expect.refused(Expect.FULL_BRAID + "removeCrossing(); undo(); ", "appendCrossing(1)", Check.LIMIT);
        Expect.refused(Expect.EMPTY_BRAID, "removeCrossing()", Check.NONE);
        Expect.refused(Expect.FULL + "setStrands(2); ", "removeCrossing()", Check.NONE);
        Expect.refused(Expect.NEW, "undo()", Check.NONE);
        Expect.refused(Expect.FULL, "nextColoring(125)", Check.NONE);
        Expect.refused(Expect.FULL, "nonInvertibleColumn()", Check.NONE);
        Expect.refused(Expect.FULL, "distributivityViolation()", Check.NONE);
        Expect.refused(Expect.FULL, "idempotencyViolation()", Check.NONE);
        Expect.refused(Expect.NEW, "cocycleViolation()", Check.NONE);
    }

    private static void constants() {
        constant("INVALID_ARGUMENT = -1", "An argument is out of its range.", QuandleColorings.INVALID_ARGUMENT, -1, "loadTrivial(7)");
        constant("INVALID_STATE = -2", "The operation does not have a property that is needed.", QuandleColorings.INVALID_STATE, -2,
            "loadTrivial(2); setEntry(0, 0, 1); loadDual()");
        constant("LIMIT_REACHED = -3", "A fixed limit has been reached.", QuandleColorings.LIMIT_REACHED, -3,
            "appendCrossing(1); ".repeat(9) + "appendCrossing(1)");
        constant("NOT_FOUND = -4", "There is no such element.", QuandleColorings.NOT_FOUND, -4, "nextColoring(9)");
    }

    /** The last call of the run returns the constant. */
    private static void constant(String name, String meaning, int constant, int value, String run) {
        Sentence.description("`" + name + "`: " + meaning, () -> {
            Check.due("the constant", constant, value);
            Bench.after(run + " = " + value);
        });
    }
}
