import java.io.IOException;
import java.nio.file.Files;
import java.nio.file.Path;

/** Sentences of the document, each with the test that holds the class to it. */
final class Sentences {
    private static final Path DOCUMENT = Path.of("../shared/DOC.md");
    private static String current = "";
    private static int wrong = 0;
    private final String document;
    private int tested = 0;

    /** Without the document the class is tested all the same, as the answers that are due stand in the tests. */
    Sentences() throws IOException {
        boolean found = Files.exists(DOCUMENT);
        if (!found) System.out.println("no " + DOCUMENT + ": whether the sentences stand there is not tested");
        document = found ? Files.readString(DOCUMENT).replace("`", "").replaceAll("\\s+", " ") : "";
    }

    /** Tests a sentence of a promise (0: ahead of all promises), and that its words stand there. */
    void holds(int promise, String words, Runnable test) {
        current = (promise == 0 ? "ahead of the promises" : "promise " + promise) + ", '" + words + "'";
        if (!document.isEmpty() && !section(promise).contains(words)) fault("these words do not stand in the document there");
        test.run();
        tested++;
    }

    /** What stands under a promise's heading; 0: ahead of all promises. */
    String section(int promise) {
        int from = promise == 0 ? 0 : document.indexOf("## Promise " + promise + ":");
        int to = document.indexOf(promise == 18 ? "## Not promised" : "## Promise " + (promise + 1) + ":");
        return from < 0 || to < from ? "" : document.substring(from, to);
    }

    static void fault(String what) {
        wrong++;
        System.out.println(current + ": " + what);
    }

    void end() {
        System.out.println(wrong == 0 ? tested + " sentences hold" : wrong + " faults");
        if (wrong != 0) System.exit(1);
    }
}
