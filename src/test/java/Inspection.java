import java.util.ArrayList;
import java.util.HashMap;
import java.util.List;
import java.util.Map;

/**
 * All that the face can tell of an object, by edits too: each look is taken at an object that has been made
 * anew by the same calls. Two objects with the same inspection cannot be told apart.
 */
final class Inspection {
    static final int MOST_UNDO = 5;
    private static final int MOST_CROSSINGS = 12;
    private static final int MOST_MODULUS = 12;

    private static final Map<String, List<Integer>> KNOWN = new HashMap<>();

    private Inspection() {
    }

    /** The present state, and each state that undo gives back, with what undo answers. */
    static List<Integer> whole(String run) {
        return KNOWN.computeIfAbsent("whole: " + run, key -> lookWhole(run, ""));
    }

    /** The same with a call more, which may be refused. */
    static List<Integer> whole(String run, String lastCall) {
        return lookWhole(run, lastCall);
    }

    /** The present state alone. */
    static List<Integer> state(String run) {
        return KNOWN.computeIfAbsent("state: " + run, key -> look(Bench.after(run)));
    }

    private static List<Integer> lookWhole(String run, String lastCall) {
        List<Integer> seen = new ArrayList<>();
        int undone = 0;
        int answer = 0;
        while (answer >= 0 && undone <= MOST_UNDO + 1) {
            Bench bench = Bench.after(run);
            if (!lastCall.isEmpty()) {
                bench.ask(lastCall);
            }
            for (int i = 0; i < undone; i++) {
                answer = bench.ask("undo()");
                seen.add(answer);
            }
            seen.addAll(look(bench));
            undone++;
        }
        return seen;
    }

    private static List<Integer> look(Bench bench) {
        List<Integer> seen = new ArrayList<>();
        read(bench, seen);
        takeApart(bench, seen);
        return seen;
    }

    private static void read(Bench bench, List<Integer> seen) {
        int size = bench.ask("size()");
        seen.add(size);
        for (int x = 0; x < size; x++) {
            for (int y = 0; y < size; y++) {
                String pair = "(" + x + ", " + y + ")";
                seen.add(bench.ask("entry" + pair));
                seen.add(bench.ask("quotient" + pair));
                seen.add(bench.ask("weight" + pair));
            }
            seen.add(bench.ask("orbit(" + x + ")"));
        }
        String[] others = {
            "nonInvertibleColumn()", "distributivityViolation()", "idempotencyViolation()", "kind()", "innerGroupOrder()",
            "automorphismCount()", "crossingCount()", "nextColoring(0)", "nextColoring(1)", "cocycleViolation()",
        };
        for (String call : others) {
            seen.add(bench.ask(call));
        }
        for (int total = 0; total <= MOST_MODULUS; total++) {
            seen.add(bench.ask("stateSum(" + total + ")"));
        }
    }

    /** The colorings behind each number of crossings show the crossings' signs. */
    private static void takeApart(Bench bench, List<Integer> seen) {
        for (int i = 0; i <= MOST_CROSSINGS; i++) {
            seen.add(bench.ask("coloringCount()"));
            seen.add(bench.ask("stateSum(1)"));
            seen.add(bench.ask("removeCrossing()"));
        }
        seen.add(bench.ask("setStrands(2)"));
        seen.add(bench.ask("setModulus(2)"));
    }
}
