import java.io.IOException;
import java.nio.file.Files;
import java.nio.file.Path;
import java.util.regex.Matcher;
import java.util.regex.Pattern;

/** That each sentence of the document stands in a test: what none of them quotes is printed. */
public final class EverySentenceTest {
    private static final String[] TESTS = {"DocumentTest", "TermsEdgesTest", "PromisesEdgesTest"};
    private static final Pattern QUOTE = Pattern.compile("holds\\((\\d+), ((?:\"[^\"]*\"[\\s+]*)+),");
    /** What is no sentence that an answer could break: headings, the face (which FaceTest reads), marks. */
    private static final Pattern NO_SENTENCE = Pattern.compile("^.*?1 THE PRIME|## The public face .*?## Terms|## Promise \\d+: [^:]*:|=+|\\btext\\b");
    private static final char QUOTED = '\n';
    private static int wrong = 0;

    public static void main(String[] args) throws IOException {
        Sentences document = new Sentences();
        int quotes = 0;
        StringBuilder[] sections = new StringBuilder[19];
        for (int promise = 0; promise <= 18; promise++) sections[promise] = new StringBuilder(document.section(promise));
        for (String test : TESTS) {
            Matcher quote = QUOTE.matcher(Files.readString(Path.of("src/test/java/" + test + ".java")));
            while (quote.find()) {
                int promise = Integer.parseInt(quote.group(1));
                blot(sections[promise], document.section(promise), quote.group(2).replaceAll("\"[\\s+]*\"", "").replace("\"", "").trim());
                quotes++;
            }
        }
        for (int promise = 0; promise <= 18; promise++) report(promise, sections[promise].toString());
        System.out.println(wrong == 0 ? quotes + " quotes leave no sentence out" : wrong + " sentences have no test");
        if (wrong != 0) System.exit(1);
    }

    private static void blot(StringBuilder left, String section, String words) {
        for (int at = section.indexOf(words); at >= 0 && !words.isEmpty(); at = section.indexOf(words, at + 1)) {
            for (int i = at; i < at + words.length(); i++) left.setCharAt(i, QUOTED);
        }
    }

    private static void report(int promise, String left) {
        for (String words : NO_SENTENCE.matcher(left).replaceAll("\n").split(QUOTED + "+")) {
            if (!words.matches("[^\\p{Alnum}]*")) {
                wrong++;
                System.out.println((promise == 0 ? "ahead of the promises" : "promise " + promise) + " without a test: " + words);
            }
        }
    }
}
