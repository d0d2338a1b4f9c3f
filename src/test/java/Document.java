import java.io.IOException;
import java.nio.file.Files;
import java.nio.file.Path;
import java.util.ArrayList;
import java.util.Comparator;
import java.util.List;

/** Compares the sentences that have been tested with those of ../shared/DOC.md; run from the project's root. */
final class Document {
    private static final Path PLACE = Path.of("../shared/DOC.md");
    private static final int PROMISES = 31;

    private Document() {
    }

    static void compare() throws IOException {
        if (!Files.exists(PLACE)) {
            System.out.println("there is no " + PLACE + " here: the sentences are not compared with it");
            return;
        }
        List<String> lines = Files.readAllLines(PLACE);
        for (int part = Sentence.PREFACE; part <= PROMISES; part++) {
            String heading = headingOf(part);
            compare(heading, textUnder(heading, lines), Sentence.quotesOf(part));
        }
    }

    private static String headingOf(int part) {
        switch (part) {
            case Sentence.PREFACE: return "## What it is";
            case Sentence.DESCRIPTION: return "## Description";
            default: return "## Promise " + part + ":";
        }
    }

    private static void compare(String heading, String text, List<String> quotes) {
        List<String> longestFirst = new ArrayList<>(quotes);
        longestFirst.sort(Comparator.comparing(String::length).reversed());
        String left = text;
        for (String quote : longestFirst) {
            Check.holds(heading + " says \"" + quote + "\"", text.contains(quote));
            left = left.replace(quote, " ");
        }
        boolean allTested = left.chars().noneMatch(Character::isLetterOrDigit);
        Check.holds(heading + " has a test for each sentence; without one: " + left.trim(), allTested);
    }

    private static String textUnder(String heading, List<String> lines) {
        StringBuilder text = new StringBuilder();
        boolean inside = false;
        for (String line : lines) {
            if (line.startsWith("## ")) {
                inside = line.startsWith(heading);
            } else if (inside && !isNoSentence(line)) {
                text.append(line).append('\n');
            }
        }
        return text.toString();
    }

    /** Headings and signatures, and the examples, which have a test of their own: ExamplesTest. */
    private static boolean isNoSentence(String line) {
        return line.startsWith("A workbench for finite racks and quandles:") || line.startsWith("---- ") || line.startsWith("`int ") || line.startsWith("`QuandleColorings()`")
            || line.startsWith("Examples:") || line.matches("[1-4]\\. .*")
            || line.startsWith("The constants:") || line.startsWith("The constructor and the methods follow");
    }
}
