import java.io.IOException;
import java.nio.file.Files;
import java.nio.file.Path;
import java.util.ArrayList;
import java.util.Comparator;
import java.util.List;

/** Compares what has been tested with the words of ../shared/DOC.md; run from the project's root. */
final class Document {
    private static final Path PLACE = Path.of("../shared/DOC.md");
    private static final int PROMISES = 31;

    private Document() {
    }

    /** Says so where it is not. */
    static boolean isHere() {
        boolean here = Files.exists(PLACE);
        if (!here) {
            System.out.println("there is no " + PLACE + " here: the tests are not compared with it");
        }
        return here;
    }

    /** Each sentence of the document has a test, and each tested sentence is the document's. */
    static void compare() throws IOException {
        if (!isHere()) {
            return;
        }
        for (int part = Sentence.PREFACE; part <= PROMISES; part++) {
            String heading = headingOf(part);
            compare(heading, textUnder(heading), Sentence.quotesOf(part));
        }
    }

    private static String headingOf(int part) {
        switch (part) {
            case Sentence.PREFACE: return "## What it is";
            case Sentence.DESCRIPTION: return "## Description";
            default: return "## Promise " + part + ":";
        }
    }

    private static void compare(String heading, String text, List<String> quotes) {
        List<String> longestFirst = new ArrayList<>(quotes);
        longestFirst.sort(Comparator.comparing(String::length).reversed());
        String left = text;
        for (String quote : longestFirst) {
            Check.holds(heading + " says \"" + quote + "\"", text.contains(quote));
            left = left.replace(quote, " ");
        }
        boolean allTested = left.chars().noneMatch(Character::isLetterOrDigit);
        Check.holds(heading + " has a test for each sentence; without one: " + left.trim(), allTested);
    }

    static List<String> linesUnder(String heading) throws IOException {
        List<String> under = new ArrayList<>();
        boolean inside = false;
        for (String line : Files.readAllLines(PLACE)) {
            if (line.startsWith("## ")) {
                inside = line.startsWith(heading);
            } else if (inside) {
                under.add(line);
            }
        }
        return under;
    }

    private static String textUnder(String heading) throws IOException {
        StringBuilder text = new StringBuilder();
        for (String line : linesUnder(heading)) {
            if (!isNoSentence(line)) {
                text.append(line).append('\n');
            }
        }
        return text.toString();
    }

    static boolean isExample(String line) {
        return line.matches("\\d+\\. .*");
    }

    /** Headings, and what has a test of its own: the signatures in FaceTest, the examples in ExamplesTest. */
    private static boolean isNoSentence(String line) {
        return line.startsWith("A workbench for finite racks and quandles:") || line.startsWith("---- ") || isSignature(line)
            || line.startsWith("Examples:") || isExample(line)
            || line.startsWith("The constants:") || line.startsWith("The constructor and the methods follow");
    }

    static boolean isSignature(String line) {
        return line.matches("`(int )?\\w+\\(.*\\)`");
    }
}
