import java.nio.file.Files;
import java.nio.file.Path;
import java.util.Arrays;
import java.util.Set;
import java.util.TreeSet;

/**
 * Each sentence of the document's Terms and Promises is quoted by a test that looks at it, and what is quoted stands there.
 * Run from the project's folder; without the document there is nothing to look at.
 */
public final class SentencesTest {
    private static final Path DOCUMENT = Path.of("../shared/DOC.md");
    private static final Due DUE = new Due();
    /** What says nothing that a test could look at. */
    private static final Set<String> NO_PROMISE =
            Set.of("Words in capitals are told where they come first.", "what later calls answer is free.");

    private static Set<String> quoted() {
        String[] none = {};
        EdgesOfFaceTest.main(none);
        EdgesOfBooksTest.main(none);
        EdgesOfTextsTest.main(none);
        EdgesOfWorthsTest.main(none);
        EdgesOfLawsTest.main(none);
        EdgesOfLikesTest.main(none);
        EdgesOfPartsTest.main(none);
        Set<String> all = new TreeSet<>(Due.LOOKED_AT);
        all.addAll(NO_PROMISE);
        return all;
    }

    /** What there is beside sentences: heads, lines that tell which call comes where, the call's own line, bars. */
    private static String sentencesOf(String document) {
        String text = document.substring(document.indexOf("An object is used for"), document.indexOf("## Not promised"));
        text = text.replaceAll("(?s)## The public face.*?## Terms\n", " ");
        text = text.replaceAll("(?m)^## Promise.*$", "").replaceAll("(?m)^Ahead of the calls.*$", "");
        text = text.replaceAll("(?m)^`[^`]*`:", "").replaceAll("(?m)^```.*$", "").replaceAll("={4,} \\d ?", "");
        return text.replaceAll("\\s+", " ");
    }

    public static void main(String[] args) throws Exception {
        if (!Files.exists(DOCUMENT)) {
            System.out.println("SentencesTest: no " + DOCUMENT + ", nothing is looked at");
            return;
        }
        String text = sentencesOf(Files.readString(DOCUMENT));
        boolean[] covered = new boolean[text.length()];
        for (String quote : quoted()) {
            int at = text.indexOf(quote);
            DUE.due("stands in the document: " + quote, at >= 0 ? 1 : 0, 1);
            for (; at >= 0; at = text.indexOf(quote, at + 1)) {
                Arrays.fill(covered, at, at + quote.length(), true);
            }
        }
        StringBuilder left = new StringBuilder();
        for (int i = 0; i < covered.length; i++) {
            left.append(covered[i] ? '\n' : text.charAt(i));
        }
        for (String rest : left.toString().split("\n+")) {
            if (rest.matches(".*\\w.*")) {
                DUE.due("no test looks at: " + rest.strip(), 1, 0);
            }
        }
        DUE.end("SentencesTest");
    }
}
