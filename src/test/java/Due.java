/** What the tests share: counting wrong answers, and feeding texts. */
final class Due {
    private int wrong = 0;

    void due(String call, long got, long want) {
        if (got != want) {
            wrong++;
            System.out.println(call + " answered " + got + ", due is " + want);
        }
    }

    /** Feeds a text eight bytes at a time. */
    static void feedText(YearBaskets x, String text) {
        for (int from = 0; from < text.length(); from += 8) {
            int to = Math.min(from + 8, text.length());
            x.feed(to - from, packed(text.substring(from, to)));
        }
    }

    static long packed(String text) {
        long bytes = 0;
        for (int i = 0; i < text.length(); i++) {
            bytes = bytes << 8 | text.charAt(i) & 255;
        }
        return bytes;
    }

    static int numberOf(YearBaskets x, String text) {
        feedText(x, text);
        return x.number();
    }

    /** A row of PRICES for a YEAR, from GOOD 0 on. */
    static void prices(YearBaskets x, int y, int... row) {
        for (int g = 0; g < row.length; g++) {
            x.price(y, g, row[g]);
        }
    }

    /** A row of what a PERSON BOUGHT in a YEAR, from GOOD 0 on. */
    static void basket(YearBaskets x, int p, int y, int... row) {
        for (int g = 0; g < row.length; g++) {
            x.bought(p, y, g, row[g]);
        }
    }

    void end(String name) {
        System.out.println(name + ": " + (wrong == 0 ? "all answers are as due" : wrong + " answers are not as due"));
        if (wrong != 0) {
            System.exit(1);
        }
    }
}
