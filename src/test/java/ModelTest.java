/** Long runs of mixed calls, right and wrong ones, answered alike by the program and by the model. */
public final class ModelTest {
    private static final int RUNS = 300;
    /** The document tells nothing of an object after this many calls. */
    private static final int CALLS = 512;
    private static final int METHODS = 30;

    private static long seed = 20261117L;

    private final QuandleColorings program = new QuandleColorings();
    private final Model model = new Model();
    private final String run;
    private int calls = 0;

    private ModelTest(int number) {
        run = "run " + number + ", call ";
    }

    public static void main(String[] args) {
        for (int number = 0; number < RUNS; number++) {
            new ModelTest(number).go();
        }
        Check.end("ModelTest");
    }

    /** The same numbers in every run of the test: a linear congruence, its high bits. */
    private static int below(int bound) {
        seed = seed * 6364136223846793005L + 1442695040888963407L;
        return (int) ((seed >>> 33) % bound);
    }

    private static boolean chance(int percent) {
        return below(100) < percent;
    }

    /** Mostly from low to high, sometimes just outside, seldom far away. */
    private static int around(int low, int high) {
        if (chance(2)) {
            return Check.FAR[below(Check.FAR.length)];
        }
        return chance(6) ? (chance(50) ? low - 1 : high + 1) : low + below(high - low + 1);
    }

    private int element() {
        return around(0, model.size() - 1);
    }

    private void due(String call, int got, int want) {
        calls++;
        Check.due(run + calls + ": " + call, got, want);
    }

    private void go() {
        while (calls + 8 < CALLS) {
            if (chance(6)) {
                setColumnToBijection();
            } else if (chance(3)) {
                int n = 1 + below(6);
                due("loadTrivial(" + n + ")", program.loadTrivial(n), model.loadTrivial(n));
            } else {
                call(below(METHODS));
            }
            if (model.kind() == 0 && model.nonInvertibleColumn() >= 0 && chance(15)) {
                due("undo()", program.undo(), model.undo());
            }
        }
    }

    /** Single random entries hardly ever give another invertible operation. */
    private void setColumnToBijection() {
        int n = model.size();
        int y = below(n);
        int[] column = new int[n];
        for (int x = 0; x < n; x++) {
            int other = below(x + 1);
            column[x] = column[other];
            column[other] = x;
        }
        for (int x = 0; x < n; x++) {
            setEntry(x, y, column[x]);
        }
    }

    private void setEntry(int x, int y, int value) {
        due("setEntry(" + x + ", " + y + ", " + value + ")", program.setEntry(x, y, value), model.setEntry(x, y, value));
    }

    private void call(int method) {
        if (method < 8) {
            callOperation(method);
        } else if (method < 16) {
            callLaws(method);
        } else if (method < 23) {
            callBraid(method);
        } else {
            callWeights(method);
        }
    }

    private void callOperation(int method) {
        int size = around(1, 6);
        int t = around(0, Math.max(1, Math.min(size, 6) - 1));
        switch (method) {
            case 0 -> due("loadTrivial(" + size + ")", program.loadTrivial(size), model.loadTrivial(size));
            case 1 -> due("loadDihedral(" + size + ")", program.loadDihedral(size), model.loadDihedral(size));
            case 2 -> due("loadAlexander(" + size + ", " + t + ")", program.loadAlexander(size, t), model.loadAlexander(size, t));
            case 3 -> due("loadConjugation()", program.loadConjugation(), model.loadConjugation());
            case 4 -> due("loadCyclicRack(" + size + ")", program.loadCyclicRack(size), model.loadCyclicRack(size));
            case 5 -> due("loadDual()", program.loadDual(), model.loadDual());
            case 6 -> setEntry(element(), element(), element());
            default -> due("undo()", program.undo(), model.undo());
        }
    }

    private void callLaws(int method) {
        int x = element();
        int y = element();
        switch (method) {
            case 8 -> due("entry(" + x + ", " + y + ")", program.entry(x, y), model.entry(x, y));
            case 9 -> due("quotient(" + x + ", " + y + ")", program.quotient(x, y), model.quotient(x, y));
            case 10 -> due("nonInvertibleColumn()", program.nonInvertibleColumn(), model.nonInvertibleColumn());
            case 11 -> due("distributivityViolation()", program.distributivityViolation(), model.distributivityViolation());
            case 12 -> due("idempotencyViolation()", program.idempotencyViolation(), model.idempotencyViolation());
            case 13 -> due("orbit(" + x + ")", program.orbit(x), model.orbit(x));
            case 14 -> due("innerGroupOrder()", program.innerGroupOrder(), model.innerGroupOrder());
            default -> {
                due("kind()", program.kind(), model.kind());
                due("size()", program.size(), model.size());
                due("automorphismCount()", program.automorphismCount(), model.automorphismCount());
            }
        }
    }

    private void callBraid(int method) {
        int strands = around(2, 4);
        int crossing = around(-3, 3);
        int from = around(0, below(1400));
        switch (method) {
            case 16 -> due("setStrands(" + strands + ")", program.setStrands(strands), model.setStrands(strands));
            case 17, 18 -> {
                for (int i = 0; i < 4; i++) {
                    int g = i == 0 ? crossing : around(-2, 2);
                    due("appendCrossing(" + g + ")", program.appendCrossing(g), model.appendCrossing(g));
                }
            }
            case 19 -> due("removeCrossing()", program.removeCrossing(), model.removeCrossing());
            case 20 -> due("crossingCount()", program.crossingCount(), model.crossingCount());
            case 21 -> due("coloringCount()", program.coloringCount(), model.coloringCount());
            default -> due("nextColoring(" + from + ")", program.nextColoring(from), model.nextColoring(from));
        }
    }

    private void callWeights(int method) {
        int x = element();
        int y = element();
        int modulus = around(2, 12);
        int number = chance(70) ? below(3) : around(0, 11);
        switch (method) {
            case 23 -> due("setModulus(" + modulus + ")", program.setModulus(modulus), model.setModulus(modulus));
            case 24, 25 -> {
                String call = "setWeight(" + x + ", " + y + ", " + number + ")";
                due(call, program.setWeight(x, y, number), model.setWeight(x, y, number));
            }
            case 26 -> due("addCoboundary(" + x + ", " + number + ")", program.addCoboundary(x, number), model.addCoboundary(x, number));
            case 27 -> due("weight(" + x + ", " + y + ")", program.weight(x, y), model.weight(x, y));
            case 28 -> due("cocycleViolation()", program.cocycleViolation(), model.cocycleViolation());
            default -> due("stateSum(" + number + ")", program.stateSum(number), model.stateSum(number));
        }
    }
}
