import java.util.Set;
import java.util.TreeSet;

/** What the tests share: counting wrong answers, and feeding texts. */
final class Due {
    /** The sentences of the document that have been looked at since this machine was started. */
    static final Set<String> LOOKED_AT = new TreeSet<>();

    private String sentence = "";
    private int looks = 1;
    private int wrong = 0;

    interface Asked {
        long of(int v);
    }

    void due(String call, long got, long want) {
        looks++;
        if (got != want) {
            wrong++;
            System.out.println(call + " answered " + got + ", due is " + want
                    + (sentence.isEmpty() ? "" : ", by: " + sentence));
        }
    }

    /** From here on it is this sentence of the document that is looked at; SentencesTest looks for it there. */
    void says(String quoted) {
        endSentence();
        LOOKED_AT.add(quoted);
        sentence = quoted;
        looks = 0;
    }

    private void endSentence() {
        if (looks == 0) {
            wrong++;
            System.out.println("nothing was looked at for: " + sentence);
        }
    }

    /** What may be given, from the least to the greatest, is not refused so; one beyond each is, and the farthest. */
    void edges(String call, int least, int greatest, long refusal, Asked asked) {
        for (int v = least; v <= greatest; v++) {
            if (v - least < 100 || greatest - v < 100) {
                long got = asked.of(v);
                due(call + " with " + v + " refused as beyond", got == refusal ? 1 : 0, 0);
            }
        }
        for (int v : new int[] {least - 1, greatest + 1, Integer.MIN_VALUE, Integer.MAX_VALUE}) {
            due(call + " with " + v, asked.of(v), refusal);
        }
    }

    /** Feeds a text eight bytes at a time. */
    static void feedText(YearBaskets x, String text) {
        for (int from = 0; from < text.length(); from += 8) {
            int to = Math.min(from + 8, text.length());
            x.feed(to - from, packed(text.substring(from, to)));
        }
    }

    static long packed(String text) {
        long bytes = 0;
        for (int i = 0; i < text.length(); i++) {
            bytes = bytes << 8 | text.charAt(i) & 255;
        }
        return bytes;
    }

    static int numberOf(YearBaskets x, String text) {
        feedText(x, text);
        return x.number();
    }

    /** A row of PRICES for a YEAR, from GOOD 0 on. */
    static void prices(YearBaskets x, int y, int... row) {
        for (int g = 0; g < row.length; g++) {
            x.price(y, g, row[g]);
        }
    }

    /** A row of what a PERSON BOUGHT in a YEAR, from GOOD 0 on. */
    static void basket(YearBaskets x, int p, int y, int... row) {
        for (int g = 0; g < row.length; g++) {
            x.bought(p, y, g, row[g]);
        }
    }

    void end(String name) {
        endSentence();
        System.out.println(name + ": " + (wrong == 0 ? "all answers are as due" : wrong + " answers are not as due"));
        if (wrong != 0) {
            System.exit(1);
        }
    }
}
