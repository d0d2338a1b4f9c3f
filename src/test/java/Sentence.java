import java.util.ArrayList;
import java.util.List;

/** Runs the test of one sentence of the document, and keeps the sentences, to be compared with the document. */
final class Sentence {
    /** The numbers of the parts "What it is" and "Description"; the promises have their own. */
    static final int PREFACE = -1;
    static final int DESCRIPTION = 0;

    record Quote(int part, String words) {
    }

    private static final List<Quote> QUOTES = new ArrayList<>();

    private Sentence() {
    }

    static void preface(String words, Runnable test) {
        test(PREFACE, "What it is", words, test);
    }

    static void description(String words, Runnable test) {
        test(DESCRIPTION, "Description", words, test);
    }

    static void promise(int number, String words, Runnable test) {
        test(number, "promise " + number, words, test);
    }

    private static void test(int part, String name, String words, Runnable test) {
        QUOTES.add(new Quote(part, words));
        Check.within(name + ", \"" + words + "\": ");
        int before = Check.count();
        try {
            test.run();
        } catch (IllegalStateException | IllegalArgumentException e) {
            Check.holds("the test comes to its end: " + e.getMessage(), false);
        }
        Check.holds("the sentence is tested", Check.count() > before);
        Check.within("");
    }

    static List<String> quotesOf(int part) {
        List<String> words = new ArrayList<>();
        for (Quote quote : QUOTES) {
            if (quote.part() == part) {
                words.add(quote.words());
            }
        }
        return words;
    }
}
