import java.io.IOException;
import java.util.ArrayList;
import java.util.List;

/** The four examples of the document's part "Description", word for word, each with a new object. */
public final class ExamplesTest {
    private static final List<String> EXAMPLES = List.of(
        "1. The dihedral quandle of size 3 and the trefoil: entry(0, 1) = 2; quotient(0, 1) = 2; kind() = 2; coloringCount() = 9; "
            + "nextColoring(1) = 1; innerGroupOrder() = 6.",
        "2. A rack that is no quandle, a refused load, and undoing: loadCyclicRack(3) = 3; kind() = 1; idempotencyViolation() = 0; "
            + "coloringCount() = 3; loadAlexander(4, 2) = -1; undo() = 0; undo() = -4.",
        "3. Weights, state sums and a coboundary: setWeight(0, 1, 1) = 0; cocycleViolation() = 6; stateSum(0) = 6; stateSum(1) = 3; "
            + "addCoboundary(0, 1) = 4; weight(0, 1) = 2; weight(0, 0) = 0.",
        "4. An operation that is not invertible: setEntry(0, 0, 1) = 0; nonInvertibleColumn() = 0; coloringCount() = -2; orbit(0) = 7; "
            + "loadDual() = -2.");

    public static void main(String[] args) throws IOException {
        for (String example : EXAMPLES) {
            Check.within("example " + example.charAt(0) + ": ");
            Bench.after(callsOf(example));
        }
        Check.within("");
        compareWithDocument();
        Check.end("ExamplesTest");
    }

    private static String callsOf(String example) {
        return example.substring(example.indexOf(": ") + 2, example.length() - 1);
    }

    private static void compareWithDocument() throws IOException {
        if (!Document.isHere()) {
            return;
        }
        List<String> said = new ArrayList<>();
        for (String line : Document.linesUnder("## Description")) {
            if (Document.isExample(line)) {
                said.add(line);
            }
        }
        Check.holds("the document's examples are these: " + said, said.equals(EXAMPLES));
    }
}
