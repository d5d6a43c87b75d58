/** Promises 7 to 11: feed, number, fault, worth, order. */
public final class NumbersTest {
    private static final int NONE = YearBaskets.NONE, UNKNOWN = YearBaskets.UNKNOWN, OUTSIDE = YearBaskets.OUTSIDE;
    private static final int NOT = YearBaskets.NOT, FULL = YearBaskets.FULL, LARGE = YearBaskets.LARGE;
    private static final Due DUE = new Due();

    private static void due(String call, long got, long want) {
        DUE.due(call, got, want);
    }

    private static void feed() {
        YearBaskets x = new YearBaskets();
        due("feed(0, 0)", x.feed(0, 0), OUTSIDE);
        due("feed(9, 0)", x.feed(9, 0), OUTSIDE);
        due("feed(-1, 0)", x.feed(-1, 0), OUTSIDE);
        due("feed: the lowest bytes alone", x.feed(2, Due.packed("xyzzol")), 2);
        due("feed: one byte", x.feed(1, 'd'), 3);
        due("feed: 'old' came", x.number(), 0);
        long blanks = Due.packed("        ");
        for (int i = 1; i <= 7; i++) {
            due("feed: blanks", x.feed(8, blanks), 8 * i);
        }
        due("feed: 61 bytes", x.feed(5, blanks), FULL);
        due("feed: OUTSIDE ahead of FULL", x.feed(9, blanks), OUTSIDE);
        due("feed: what is refused changes nothing", x.count(1), 56);
        due("feed: 59 bytes", x.feed(3, Due.packed("new")), 59);
        due("feed: 60 bytes", x.feed(1, ' '), 60);
        due("feed: full", x.feed(1, ' '), FULL);
        due("feed: 60 bytes are a text", x.number(), 1);
        due("feed: empty again", x.count(1), 0);
        due("feed: a long below 0", x.feed(8, -1), 8);
        due("feed: signs above 127 cannot stand", x.number(), -11);
    }

    private static void number() {
        YearBaskets x = new YearBaskets();
        due("number() of nothing", x.number(), -11);
        String[] texts = {"old", " new ", "mid", "at 7", "plain", "root ( sums , at0 )", "mean(least(old,new),most(old,new))",
            "back link both at3"};
        for (int n = 0; n < 8; n++) {
            due("number() of " + texts[n], Due.numberOf(x, texts[n]), n);
            due("count(0)", x.count(0), n + 1);
        }
        due("number(), eight there, the text empty", x.number(), FULL);
        Due.feedText(x, "old");
        due("number(), eight there", x.number(), FULL);
        due("number(), the text stays", x.count(1), 3);
        YearBaskets z = new YearBaskets();
        due("number() with a fault", Due.numberOf(z, "older"), -11);
        due("the text is empty behind a fault", z.count(1), 0);
        due("eight deep", Due.numberOf(z, "back back back back back back back old"), 0);
        due("nine deep", Due.numberOf(z, "back back back back back back back back old"), -12);
        due("nine deep within a pair", Due.numberOf(z, "link link link link link link root(old,most(old,new))"), -12);
        due("nine deep in the first of a pair", Due.numberOf(z, "link link link link link link root(most(old,new),old)"), -12);
        due("a pair eight deep", Due.numberOf(z, "link link link link link link root(old,at1)"), 1);
    }

    private static void faultAt(String text, int kind, int place) {
        YearBaskets x = new YearBaskets();
        due("number() of '" + text + "'", Due.numberOf(x, text), -10 - kind);
        due("fault() of '" + text + "'", x.fault(), place);
    }

    private static void fault() {
        faultAt("", 1, 0);
        faultAt("   ", 1, 3);
        faultAt("older", 1, 0);
        faultAt(" oldnew", 1, 1);
        faultAt("ol d", 1, 0);
        faultAt("oldz", 1, 0);
        faultAt("aold", 1, 0);
        faultAt("wew", 1, 0);
        faultAt("nev", 1, 0);
        faultAt("Old", 1, 0);
        faultAt("oLd", 1, 0);
        faultAt("old new", 1, 4);
        faultAt("old,", 1, 3);
        faultAt("old\t", 1, 3);
        faultAt("old  7", 1, 5);
        faultAt("at", 1, 2);
        faultAt("at ", 1, 3);
        faultAt("at8", 1, 2);
        faultAt("at 9", 1, 3);
        faultAt("at07", 1, 3);
        faultAt("at 1 2", 1, 5);
        faultAt("at x", 1, 3);
        faultAt("atx", 1, 0);
        faultAt("at(", 1, 2);
        faultAt("7", 1, 0);
        faultAt("(old)", 1, 0);
        faultAt("back", 1, 4);
        faultAt("back(old)", 1, 4);
        faultAt("backold", 1, 0);
        faultAt("root", 1, 4);
        faultAt("root old", 1, 5);
        faultAt("root(", 1, 5);
        faultAt("root(,old)", 1, 5);
        faultAt("root(old)", 1, 8);
        faultAt("root(old new)", 1, 9);
        faultAt("root(old,)", 1, 9);
        faultAt("root(old,new", 1, 12);
        faultAt("root(old,new,mid)", 1, 12);
        faultAt("root(old,new))", 1, 13);
        faultAt("mean(at77,old)", 1, 8);
        faultAt("both both both both both both both both  olden", 1, 41);
        faultAt("both both both both both both both both  old", 2, 41);
        faultAt("both both both both both both both both", 1, 39);
        faultAt("both both both both both both both both (", 1, 40);
        faultAt("both both both both both both both both both ?", 2, 40);
        YearBaskets x = new YearBaskets();
        Due.numberOf(x, "at8");
        due("fault() stays", x.fault(), 2);
        Due.numberOf(x, "old");
        due("fault() behind a NUMBER", x.fault(), NONE);
        for (int n = 1; n < 8; n++) {
            Due.numberOf(x, n == 7 ? "back ?" : "old");
        }
        due("fault() of the latest", x.fault(), 5);
        Due.numberOf(x, "old");
        Due.numberOf(x, "?");
        due("fault() passes over what was FULL", x.fault(), NONE);
    }

    private static YearBaskets two() {
        YearBaskets x = new YearBaskets();
        Due.prices(x, 0, 2, 3);
        Due.prices(x, 1, 4, 3);
        Due.basket(x, 0, 0, 5, 1);
        Due.basket(x, 0, 1, 2, 4);
        return x;
    }

    private static void worthIs(YearBaskets x, String text, int a, int b, long upper, long lower, int root) {
        if (x.count(0) == 8) {
            throw new IllegalStateException("the test asks for too many NUMBERS");
        }
        int n = Due.numberOf(x, text);
        String call = text + " from " + a + " to " + b;
        due(call + ": upper", x.worth(n, 0, a, b, 0), upper);
        due(call + ": lower", x.worth(n, 0, a, b, 1), lower);
        due(call + ": root", x.worth(n, 0, a, b, 2), root);
    }

    private static void refusedIs(YearBaskets x, String text, int a, int b, long why) {
        worthIs(x, text, a, b, why, why, (int) why);
    }

    private static void worthOfEach() {
        YearBaskets x = two();
        worthIs(x, "old", 0, 1, 23, 13, 0);
        worthIs(x, "new", 0, 1, 5, 4, 0);
        worthIs(x, "mid", 0, 1, 43, 29, 0);
        worthIs(x, "at1", 0, 1, 5, 4, 0);
        worthIs(x, "plain", 0, 1, 3, 2, 0);
        worthIs(x, "sums", 0, 1, 7, 5, 0);
        worthIs(x, "root(old,new)", 0, 1, 115, 52, 1);
        worthIs(x, "mean(old,new)", 0, 1, 157, 104, 0);
        x = two();
        worthIs(x, "least(old,new)", 0, 1, 5, 4, 0);
        worthIs(x, "most(old,new)", 0, 1, 23, 13, 0);
        worthIs(x, "back old", 0, 1, 5, 4, 0);
        worthIs(x, "back root(old,new)", 0, 1, 115, 52, 1);
        worthIs(x, "least(root(at0,at0),at0)", 0, 1, 529, 169, 1);
        worthIs(x, "most(at0,root(at0,at0))", 0, 1, 23, 13, 0);
        worthIs(x, "old", 1, 1, 1, 1, 0);
        worthIs(x, "link plain", 1, 1, 1, 1, 0);
        x = two();
        refusedIs(x, "root(root(old,new),old)", 0, 1, NOT);
        refusedIs(x, "mean(old,root(old,new))", 0, 1, NOT);
        refusedIs(x, "at2", 0, 1, NOT);
        refusedIs(x, "old", 0, 2, NOT);
        refusedIs(x, "plain", 0, 2, NOT);
        refusedIs(x, "sums", 2, 0, NOT);
        worthIs(x, "link root(old,new)", 0, 0, 1, 1, 0);
        refusedIs(x, "root(old,new)", 2, 2, NOT);
    }

    private static void worthByHoles() {
        YearBaskets x = two();
        x.bought(0, 0, 4, 9);
        worthIs(x, "old", 0, 1, 23, 13, 0);
        x.price(7, 4, 1);
        refusedIs(x, "old", 0, 1, NOT);
        worthIs(x, "both old", 0, 1, 23, 13, 0);
        refusedIs(x, "plain", 0, 1, NOT);
        worthIs(x, "both plain", 0, 1, 3, 2, 0);
        worthIs(x, "both mean(old,back old)", 0, 1, 157, 104, 0);
        refusedIs(x, "both old", 0, 7, NOT);
        worthIs(x, "both link old", 7, 7, 1, 1, 0);
        x = two();
        x.bought(0, 1, 2, 1);
        x.price(1, 2, 1);
        refusedIs(x, "mid", 0, 1, NOT);
        refusedIs(x, "mid", 1, 0, NOT);
        refusedIs(x, "new", 0, 1, NOT);
        refusedIs(x, "plain", 0, 1, NOT);
        x.price(0, 2, 1);
        worthIs(x, "plain", 0, 1, 4, 3, 0);
        worthIs(x, "mid", 0, 1, 22, 15, 0);
        x = new YearBaskets();
        refusedIs(x, "plain", 0, 1, NOT);
        refusedIs(x, "sums", 0, 1, NOT);
        worthIs(x, "link sums", 0, 0, 1, 1, 0);
        // The GOODS of both are those of the two YEARS all the way: GOOD 1 is missing in the middle.
        Due.prices(x, 0, 1, 2, 3);
        Due.prices(x, 1, 2, 0, 5);
        Due.prices(x, 2, 3, 4, 0);
        Due.basket(x, 0, 0, 1, 1, 1);
        Due.basket(x, 0, 1, 1, 1, 1);
        refusedIs(x, "both link old", 0, 2, NOT);
        worthIs(x, "link both old", 0, 2, 7 * 3, 4 * 2, 0);
        worthIs(x, "both both old", 0, 2, 7, 3, 0);
    }

    /** link over three YEARS, and the same backwards; a root with what is none. */
    private static void worthByLinks() {
        YearBaskets x = two();
        Due.prices(x, 2, 2, 3);
        Due.basket(x, 0, 2, 1, 6);
        worthIs(x, "link old", 0, 2, 92, 65, 0);
        worthIs(x, "link old", 2, 0, 22, 25, 0);
        worthIs(x, "link root(old,new)", 0, 2, 230, 143, 1);
        x.bought(0, 2, 0, 2);
        x.bought(0, 2, 1, 4);
        // From 0 to 1 the root is less; from 1 to 2 both are alike, and the first one stays.
        refusedIs(x, "link least(old,root(old,new))", 0, 2, NOT);
        worthIs(x, "link least(root(old,new),old)", 0, 2, 92, 65, 1);
    }

    /** Baskets by which link old rises tenfold each step, and link new falls so. */
    private static YearBaskets tenfold() {
        YearBaskets x = new YearBaskets();
        for (int y = 0; y < 8; y++) {
            Due.prices(x, y, y % 2 == 0 ? 1 : 10, y % 2 == 0 ? 10 : 1);
            Due.basket(x, 0, y, y % 2 == 0 ? 1 : 0, y % 2 == 0 ? 0 : 1);
        }
        return x;
    }

    private static void worthThatIsLarge() {
        YearBaskets x = tenfold();
        worthIs(x, "link old", 0, 7, 10000000, 1, 0);
        worthIs(x, "link new", 0, 7, 1, 10000000, 0);
        for (int y = 0; y < 8; y++) {
            Due.prices(x, y, y % 2 == 0 ? 1 : 99, y % 2 == 0 ? 99 : 1);
        }
        long seven = 99L * 99 * 99 * 99 * 99 * 99 * 99;
        worthIs(x, "link old", 0, 7, seven, 1, 0);
        refusedIs(x, "root(link old,link old)", 0, 7, LARGE);
        refusedIs(x, "link root(old,old)", 0, 7, LARGE);
        refusedIs(x, "least(link old,root(old,old))", 0, 7, LARGE);
        refusedIs(x, "mean(link old,link new)", 0, 7, LARGE);
        worthIs(x, "least(link old,link new)", 0, 7, 1, seven, 0);
    }

    /** Each step is told by a GOOD of its own: an upper number by the least common lower one is 10 to the 15. */
    private static void meanAtTheEdge() {
        YearBaskets x = new YearBaskets();
        int[] ahead = {0, 25, 25, 25, 25, 25, 25, 1};
        int[] now = {1, 1, 1, 1, 1, 1, 1, 2};
        int[] behind = {8, 8, 8, 8, 8, 5, 25, 0};
        for (int y = 0; y < 8; y++) {
            x.bought(0, y, y % 5, 1);
            x.price(y - 1, y % 5, ahead[y]);
            x.price(y, y % 5, now[y]);
            x.price(y + 1, y % 5, behind[y]);
        }
        worthIs(x, "link old", 0, 7, 4096000, 1, 0);
        worthIs(x, "link new", 0, 7, 2, 244140625, 0);
        worthIs(x, "mean(link old,link new)", 0, 7, 500000000000001L, 244140625, 0);
        x.price(1, 0, 9);
        refusedIs(x, "mean(link old,link new)", 0, 7, LARGE);
        refusedIs(x, "mean(link new,link old)", 0, 7, LARGE);
    }

    private static void whichComesFirst() {
        YearBaskets x = tenfold();
        for (int y = 0; y < 8; y++) {
            Due.prices(x, y, y % 2 == 0 ? 1 : 99, y % 2 == 0 ? 99 : 1);
        }
        refusedIs(x, "root(root(link old,link old),at0)", 0, 7, LARGE);
        refusedIs(x, "root(mean(root(old,old),old),root(link old,link old))", 0, 7, NOT);
        refusedIs(x, "root(root(old,old),root(link old,link old))", 0, 7, LARGE);
    }

    private static void worthRefused() {
        YearBaskets x = two();
        Due.numberOf(x, "old");
        due("worth(1, ..)", x.worth(1, 0, 0, 1, 0), UNKNOWN);
        due("worth(-1, ..)", x.worth(-1, 0, 0, 1, 0), UNKNOWN);
        due("worth, who 4", x.worth(0, 4, 0, 1, 0), UNKNOWN);
        due("worth, a 8", x.worth(0, 0, 8, 1, 0), UNKNOWN);
        due("worth, b -1, what 3", x.worth(0, 0, 0, -1, 3), UNKNOWN);
        due("worth, what 3", x.worth(0, 0, 0, 1, 3), OUTSIDE);
        due("worth, what -1, OUTSIDE ahead of NOT", x.worth(0, 1, 0, 1, -1), OUTSIDE);
        due("worth, nothing BOUGHT", x.worth(0, 1, 0, 1, 0), NOT);
        due("worth of all together", x.worth(0, 3, 0, 1, 0), 23);
    }

    private static void order() {
        YearBaskets x = two();
        String[] texts = {"old", "new", "root(old,new)", "root(at0,at0)", "at2"};
        for (String text : texts) {
            Due.numberOf(x, text);
        }
        due("order(0, 1)", x.order(0, 1, 0, 0, 1), 1);
        due("order(1, 0)", x.order(1, 0, 0, 0, 1), -1);
        due("order(0, 0)", x.order(0, 0, 0, 0, 1), 0);
        due("order(2, 0)", x.order(2, 0, 0, 0, 1), -1);
        due("order(0, 2)", x.order(0, 2, 0, 0, 1), 1);
        due("order(2, 2)", x.order(2, 2, 0, 0, 1), 0);
        due("order(3, 0)", x.order(3, 0, 0, 0, 1), 0);
        due("order(3, 2)", x.order(3, 2, 0, 0, 1), 1);
        due("order(4, 0)", x.order(4, 0, 0, 0, 1), NOT);
        due("order(0, 4)", x.order(0, 4, 0, 0, 1), NOT);
        due("order(5, 0)", x.order(5, 0, 0, 0, 1), UNKNOWN);
        due("order(0, 5)", x.order(0, 5, 0, 0, 1), UNKNOWN);
        due("order, who 4", x.order(4, 0, 4, 0, 1), UNKNOWN);
        due("order, a 8", x.order(0, 0, 0, 8, 1), UNKNOWN);
        due("order, b 8", x.order(0, 0, 0, 0, 8), UNKNOWN);
        x = tenfold();
        String[] large = {"link old", "root(link old,link old)", "root(old,old)", "at2", "mean(link old,link new)"};
        for (String text : large) {
            Due.numberOf(x, text);
        }
        due("order of a root and 10 to the 7", x.order(1, 0, 0, 0, 7), 0);
        x.price(7, 0, 40);
        due("4 times 10 to the 7 by itself is LARGE", x.order(2, 0, 0, 0, 7), LARGE);
        due("both roots: nothing is multiplied", x.order(2, 2, 0, 0, 7), 0);
        due("the first NUMBER's ahead: LARGE", x.order(1, 3, 1, 0, 7), NOT);
        x.price(0, 1, 30);
        due("mean is LARGE", x.worth(4, 0, 0, 7, 0), LARGE);
        x.bought(0, 2, 4, 1);
        x.price(7, 4, 1);
        due("at2 is NOT", x.worth(3, 0, 0, 7, 0), NOT);
    }

    public static void main(String[] args) {
        feed();
        number();
        fault();
        worthOfEach();
        worthByHoles();
        worthByLinks();
        worthThatIsLarge();
        meanAtTheEdge();
        whichComesFirst();
        worthRefused();
        order();
        DUE.end("NumbersTest");
    }
}
