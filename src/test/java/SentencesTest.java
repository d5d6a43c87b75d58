import java.nio.file.DirectoryStream;
import java.nio.file.Files;
import java.nio.file.Path;
import java.util.Set;
import java.util.TreeSet;
import java.util.regex.Matcher;
import java.util.regex.Pattern;

/**
 * Each sentence of the document's Terms and Promises is quoted by a test that looks at it, and what is quoted stands there.
 * Run from the project's folder; without the document there is nothing to look at.
 */
public final class SentencesTest {
    private static final Path DOCUMENT = Path.of("../shared/DOC.md");
    private static final Due DUE = new Due();
    /** What says nothing that a test could look at. */
    private static final String[] NO_PROMISE = {
        "Words in capitals are told where they come first.", "what later calls answer is free."};

    private static String plain(String text) {
        return text.replaceAll("\\s+", " ");
    }

    private static Set<String> quoted() throws Exception {
        Set<String> all = new TreeSet<>();
        Pattern says = Pattern.compile("says\\(\\s*(\"[^\"]*\"(?:\\s*\\+\\s*\"[^\"]*\")*)\\s*\\)");
        try (DirectoryStream<Path> tests = Files.newDirectoryStream(Path.of("src/test/java"), "Edges*Test.java")) {
            for (Path test : tests) {
                Matcher m = says.matcher(Files.readString(test));
                while (m.find()) {
                    all.add(m.group(1).replaceAll("\"\\s*\\+\\s*\"", "").replace("\"", ""));
                }
            }
        }
        return all;
    }

    /** What there is beside sentences: heads, lines that tell which call comes where, the call's own line, bars. */
    private static String sentencesOf(String document) {
        String text = document.substring(document.indexOf("An object is used for"), document.indexOf("## Not promised"));
        text = text.replaceAll("(?s)## The public face.*?## Terms\n", " ");
        text = text.replaceAll("(?m)^## Promise.*$", "").replaceAll("(?m)^Ahead of the calls.*$", "");
        text = text.replaceAll("(?m)^`[^`]*`:", "").replaceAll("(?m)^```.*$", "").replaceAll("={4,} \\d ?", "");
        return plain(text);
    }

    public static void main(String[] args) throws Exception {
        if (!Files.exists(DOCUMENT)) {
            System.out.println("SentencesTest: no " + DOCUMENT + ", nothing is looked at");
            return;
        }
        String text = sentencesOf(Files.readString(DOCUMENT));
        boolean[] covered = new boolean[text.length()];
        Set<String> quotes = quoted();
        quotes.addAll(Set.of(NO_PROMISE));
        DUE.due("quotes found", quotes.size() > 60 ? 1 : 0, 1);
        for (String quote : quotes) {
            int at = text.indexOf(plain(quote));
            DUE.due("stands in the document: " + quote, at >= 0 ? 1 : 0, 1);
            for (; at >= 0; at = text.indexOf(plain(quote), at + 1)) {
                java.util.Arrays.fill(covered, at, at + plain(quote).length(), true);
            }
        }
        StringBuilder left = new StringBuilder();
        for (int i = 0; i < covered.length; i++) {
            left.append(covered[i] ? '\n' : text.charAt(i));
        }
        for (String rest : left.toString().split("\n+")) {
            if (rest.matches(".*\\w.*")) {
                DUE.due("no test looks at: " + rest.strip(), 1, 0);
            }
        }
        DUE.end("SentencesTest");
    }
}
