import java.io.IOException;
import java.nio.file.Files;
import java.nio.file.Path;
import java.util.regex.Matcher;
import java.util.regex.Pattern;

/** What of LANGUAGE.md can be seen by looking for words; run from the project's root, as .ci/run does. */
public final class LanguageTest {
    private static final String[] RULED_OUT = {
        "\\bthrow\\b", "\\bthrows\\b", "\\btry\\b", "\\bcatch\\b", "\\bfinally\\b", "\\bsynchronized\\b", "\\bassert\\b",
        "\\bimport\\b", "\\bpackage\\b", "\\bprotected\\b", "\\bstatic\\s*\\{", "->", "::", "Exact\\b", "\\bequals\\b",
        "\\bhashCode\\b", "\\btoString\\b", "\\bSystem\\.(?!arraycopy)", "\\bThread\\b", "\\bRandom\\b", "\\bwhile\\s*\\(\\s*true\\b",
    };
    private static final int LONGEST_METHOD = 60;
    private static final int MOST_PARAMETERS = 7;

    public static void main(String[] args) throws IOException {
        String source = Files.readString(Path.of("src/main/java/QuandleColorings.java"));
        String code = source.replaceAll("(?s)/\\*.*?\\*/", "").replaceAll("//[^\n]*", "");
        for (String word : RULED_OUT) {
            Check.holds("no " + word, !Pattern.compile(word).matcher(code).find());
        }
        Check.holds("characters 1 to 127", source.chars().allMatch(sign -> sign > 0 && sign < 128));
        methodsStaySmall(source);
        Check.end("LanguageTest");
    }

    private static void methodsStaySmall(String source) {
        Matcher heads = Pattern.compile("(?m)^( {4}| {8})(?:\\w+ )*\\w+\\(([^)]*)\\) \\{\n").matcher(source);
        int found = 0;
        while (heads.find()) {
            found++;
            int end = source.indexOf("\n" + heads.group(1) + "}\n", heads.end() - 1);
            long lines = source.substring(heads.end(), end + 1).lines().count();
            Check.holds("short: " + heads.group().trim(), lines <= LONGEST_METHOD);
            Check.holds("few parameters: " + heads.group().trim(), heads.group(2).split(",").length <= MOST_PARAMETERS);
        }
        Check.holds("methods are found", found >= 31);
    }
}
