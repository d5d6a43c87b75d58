import java.math.BigInteger;

/** Sentence by sentence: WORTH, NOT and LARGE, ORDER, and promises 10 and 11. */
public final class EdgesOfWorthsTest {
    private static final int UNKNOWN = YearBaskets.UNKNOWN, OUTSIDE = YearBaskets.OUTSIDE;
    private static final int NOT = YearBaskets.NOT, LARGE = YearBaskets.LARGE;
    private static final long TEN_TO_THE_15 = 1000000000000000L;
    private static final String[] PAIRS = {"root", "mean", "least", "most"};
    private static final Due DUE = new Due();

    private static void due(String call, long got, long want) {
        DUE.due(call, got, want);
    }

    private interface World {
        YearBaskets make();
    }

    /** WORTH of a text for WHO, on an object of its own. */
    private static void worthIs(World world, String text, int who, int a, int b, long upper, long lower, int root) {
        YearBaskets x = world.make();
        int n = Due.numberOf(x, text);
        String call = text + " from " + a + " to " + b + " for " + who;
        due(call + ": upper", x.worth(n, who, a, b, 0), upper);
        due(call + ": lower", x.worth(n, who, a, b, 1), lower);
        due(call + ": root", x.worth(n, who, a, b, 2), root);
    }

    /** A fraction for PERSON 0, told here as it is worked out by hand, due in least terms. */
    private static void shareIs(World world, String text, int a, int b, long upper, long lower) {
        long by = BigInteger.valueOf(upper).gcd(BigInteger.valueOf(lower)).longValueExact();
        worthIs(world, text, 0, a, b, upper / by, lower / by, 0);
    }

    private static void rootIs(World world, String text, int a, int b, long upper, long lower) {
        worthIs(world, text, 0, a, b, upper, lower, 1);
    }

    private static void refusedIs(World world, String text, int a, int b, long why) {
        worthIs(world, text, 0, a, b, why, why, (int) why);
    }

    /** YEARS 0 and 1 with GOODS 0 and 1, and GOOD 2 in one of both YEARS, of which some is BOUGHT in one. */
    private static YearBaskets holed(int pricedIn, int boughtIn) {
        YearBaskets x = Worlds.two();
        x.price(pricedIn, 2, 1);
        x.bought(0, boughtIn, 2, 1);
        return x;
    }

    /** GOOD 4 alone has PRICES in YEARS 0 and 1: of a PERSON who BOUGHT one of it in YEARS 0, 1. */
    private static YearBaskets single(int before, int after) {
        YearBaskets x = new YearBaskets();
        x.price(0, 4, before);
        x.price(1, 4, after);
        x.bought(0, 0, 4, 1);
        x.bought(0, 1, 4, 1);
        return x;
    }

    private static YearBaskets emptyBasket(int y) {
        YearBaskets x = Worlds.two();
        Due.basket(x, 0, y, 0, 0);
        return x;
    }

    // ---- each word

    private static void worthForWho() {
        DUE.says("WORTH from YEAR a to YEAR b for WHO, a fraction or the square root of one:");
        World w = () -> {
            YearBaskets x = Worlds.two();
            Due.basket(x, 2, 0, 0, 9);
            return x;
        };
        worthIs(w, "old", 0, 0, 1, 23, 13, 0);
        worthIs(w, "old", 1, 0, 1, NOT, NOT, NOT);
        worthIs(w, "old", 2, 0, 1, 1, 1, 0);
        worthIs(w, "old", 3, 0, 1, (23 + 27) / 10, (13 + 27) / 10, 0);
    }

    private static void oldOnes() {
        DUE.says("old: COST (b, a) / COST (a, a).");
        shareIs(Worlds::two, "old", 0, 1, 23, 13);
        shareIs(Worlds::two, "old", 1, 0, 4, 5);
        shareIs(Worlds::two, "old", 0, 0, 1, 1);
        shareIs(() -> emptyBasket(1), "old", 0, 1, 23, 13);
        refusedIs(() -> emptyBasket(0), "old", 0, 1, NOT);
        shareIs(() -> single(1, 99), "old", 0, 1, 99, 1);
        shareIs(() -> single(99, 1), "old", 0, 1, 1, 99);
        refusedIs(() -> holed(0, 0), "old", 0, 1, NOT);
        refusedIs(() -> holed(1, 0), "old", 0, 1, NOT);
        shareIs(() -> holed(0, 1), "old", 0, 1, 23, 13);
        World greatest = () -> {
            YearBaskets x = Worlds.full();
            for (int g = 0; g < 5; g++) {
                x.price(0, g, 98);
                x.price(7, g, 99);
                for (int p = 0; p < 3; p++) {
                    x.bought(p, 0, g, 9);
                }
            }
            x.price(0, 0, 97);
            return x;
        };
        worthIs(greatest, "old", 3, 0, 7, 13365 / 81, 13203 / 81, 0);
        worthIs(greatest, "old", 3, 7, 7, 1, 1, 0);
    }

    private static void newOnes() {
        DUE.says("new: COST (b, b) / COST (a, b).");
        shareIs(Worlds::two, "new", 0, 1, 5, 4);
        shareIs(Worlds::two, "new", 1, 0, 13, 23);
        shareIs(Worlds::two, "new", 1, 1, 1, 1);
        shareIs(() -> emptyBasket(0), "new", 0, 1, 5, 4);
        refusedIs(() -> emptyBasket(1), "new", 0, 1, NOT);
        refusedIs(() -> holed(0, 1), "new", 0, 1, NOT);
        refusedIs(() -> holed(1, 1), "new", 0, 1, NOT);
        shareIs(() -> holed(1, 0), "new", 0, 1, 5, 4);
    }

    private static void midOnes() {
        DUE.says("mid: the sum of COST (b, a) and COST (b, b) by that of COST (a, a) and COST (a, b).");
        shareIs(Worlds::two, "mid", 0, 1, 43, 29);
        shareIs(Worlds::two, "mid", 1, 0, 29, 43);
        shareIs(() -> emptyBasket(1), "mid", 0, 1, 23, 13);
        shareIs(() -> emptyBasket(0), "mid", 0, 1, 5, 4);
        refusedIs(() -> {
            YearBaskets x = emptyBasket(0);
            Due.basket(x, 0, 1, 0, 0);
            return x;
        }, "mid", 0, 1, NOT);
        for (int i = 0; i < 4; i++) {
            int one = i;
            refusedIs(() -> holed(one / 2, one % 2), "mid", 0, 1, NOT);
        }
    }

    private static void atYears() {
        DUE.says("at Y: COST (b, Y) / COST (a, Y).");
        World w = () -> {
            YearBaskets x = Worlds.two();
            Due.basket(x, 0, 7, 1, 1);
            return x;
        };
        shareIs(w, "at 0", 0, 1, 23, 13);
        shareIs(w, "at 1", 0, 1, 5, 4);
        shareIs(w, "at 7", 0, 1, 7, 5);
        shareIs(w, "at 7", 1, 0, 5, 7);
        shareIs(w, "at 7", 1, 1, 1, 1);
        refusedIs(w, "at 6", 0, 1, NOT);
        refusedIs(w, "at 0", 0, 7, NOT);
        refusedIs(w, "at 7", 7, 0, NOT);
    }

    private static void plainOnes() {
        DUE.says("plain: the sum over all GOODS of PRICE in b / PRICE in a (as fractions), by how many GOODS there are.");
        refusedIs(YearBaskets::new, "plain", 0, 1, NOT);
        refusedIs(YearBaskets::new, "plain", 0, 0, NOT);
        shareIs(() -> single(2, 3), "plain", 0, 1, 3, 2);
        for (int goods = 1; goods <= 5; goods++) {
            int many = goods;
            World w = () -> {
                YearBaskets x = new YearBaskets();
                for (int g = 0; g < many; g++) {
                    x.price(3, g, 2);
                    x.price(2, g, g + 1);
                }
                return x;
            };
            shareIs(w, "plain", 3, 2, goods + 1, 4);
            shareIs(w, "plain", 3, 3, 1, 1);
        }
        shareIs(Worlds::two, "plain", 0, 1, 3, 2);
        shareIs(Worlds::two, "plain", 1, 0, 3, 4);
        refusedIs(() -> holed(0, 0), "plain", 0, 1, NOT);
        refusedIs(() -> holed(1, 0), "plain", 0, 1, NOT);
        refusedIs(() -> {
            YearBaskets x = Worlds.two();
            x.price(7, 4, 1);
            return x;
        }, "plain", 0, 1, NOT);
    }

    private static void sumsOfPrices() {
        DUE.says("sums: all PRICES of b together / all of a.");
        refusedIs(YearBaskets::new, "sums", 0, 1, NOT);
        shareIs(Worlds::two, "sums", 0, 1, 7, 5);
        shareIs(Worlds::two, "sums", 1, 0, 5, 7);
        shareIs(Worlds::two, "sums", 1, 1, 1, 1);
        refusedIs(() -> holed(0, 0), "sums", 0, 1, NOT);
        refusedIs(() -> holed(1, 0), "sums", 0, 1, NOT);
        refusedIs(Worlds::two, "sums", 0, 2, NOT);
        refusedIs(Worlds::two, "sums", 2, 0, NOT);
        refusedIs(Worlds::two, "sums", 2, 3, NOT);
        World w = () -> {
            YearBaskets x = new YearBaskets();
            Due.prices(x, 0, 99, 99, 99, 99, 99);
            Due.prices(x, 1, 1, 1, 1, 1, 2);
            return x;
        };
        shareIs(w, "sums", 1, 0, 495 / 3, 2);
        shareIs(w, "sums", 0, 1, 2, 165);
    }

    private static void roots() {
        DUE.says("root: the square root of both multiplied (none of both a root).");
        rootIs(Worlds::two, "root(old,new)", 0, 1, 115, 52);
        rootIs(Worlds::two, "root(new,old)", 0, 1, 115, 52);
        rootIs(Worlds::two, "root(old,old)", 0, 1, 529, 169);
        rootIs(Worlds::two, "root(old,back old)", 0, 0, 1, 1);
        refusedIs(Worlds::two, "root(root(old,new),new)", 0, 1, NOT);
        refusedIs(Worlds::two, "root(old,root(old,new))", 0, 1, NOT);
        refusedIs(Worlds::two, "root(root(old,new),root(old,new))", 0, 1, NOT);
        refusedIs(Worlds::two, "root(back root(old,new),new)", 0, 1, NOT);
    }

    private static void means() {
        DUE.says("mean: half of both together (likewise).");
        shareIs(Worlds::two, "mean(old,new)", 0, 1, 157, 104);
        shareIs(Worlds::two, "mean(new,old)", 0, 1, 157, 104);
        shareIs(Worlds::two, "mean(old,old)", 0, 1, 23, 13);
        shareIs(Worlds::two, "mean(sums,plain)", 0, 1, 29, 20);
        refusedIs(Worlds::two, "mean(root(old,new),new)", 0, 1, NOT);
        refusedIs(Worlds::two, "mean(old,root(old,new))", 0, 1, NOT);
        refusedIs(Worlds::two, "mean(root(old,new),root(old,new))", 0, 1, NOT);
        refusedIs(Worlds::two, "mean(old,link root(old,new))", 0, 1, NOT);
        shareIs(Worlds::two, "mean(old,link root(old,new))", 1, 1, 1, 1);
    }

    private static void leastAndMost() {
        DUE.says("least, most: of both (of like ones the first).");
        shareIs(Worlds::two, "least(old,new)", 0, 1, 5, 4);
        shareIs(Worlds::two, "least(new,old)", 0, 1, 5, 4);
        shareIs(Worlds::two, "most(old,new)", 0, 1, 23, 13);
        shareIs(Worlds::two, "most(new,old)", 0, 1, 23, 13);
        for (String word : new String[] {"least", "most"}) {
            shareIs(Worlds::two, word + "(old,root(old,old))", 0, 1, 23, 13);
            rootIs(Worlds::two, word + "(root(old,old),old)", 0, 1, 529, 169);
        }
        rootIs(Worlds::two, "least(root(old,new),old)", 0, 1, 115, 52);
        rootIs(Worlds::two, "least(old,root(old,new))", 0, 1, 115, 52);
        shareIs(Worlds::two, "most(root(old,new),old)", 0, 1, 23, 13);
        rootIs(Worlds::two, "most(root(old,new),new)", 0, 1, 115, 52);
        rootIs(Worlds::two, "least(root(old,old),root(old,new))", 0, 1, 115, 52);
        rootIs(Worlds::two, "most(root(old,old),root(old,new))", 0, 1, 529, 169);
    }

    private static void backs() {
        DUE.says("back: 1 by E's from b to a.");
        shareIs(Worlds::two, "back old", 0, 1, 5, 4);
        shareIs(Worlds::two, "back new", 0, 1, 23, 13);
        shareIs(Worlds::two, "back old", 1, 0, 13, 23);
        shareIs(Worlds::two, "back back old", 0, 1, 23, 13);
        shareIs(Worlds::two, "back plain", 0, 1, 4, 3);
        shareIs(Worlds::two, "back old", 1, 1, 1, 1);
        rootIs(Worlds::two, "back root(old,old)", 0, 1, 25, 16);
        refusedIs(Worlds::two, "back root(root(old,new),new)", 0, 1, NOT);
        refusedIs(() -> emptyBasket(1), "back old", 0, 1, NOT);
        shareIs(() -> emptyBasket(0), "back old", 0, 1, 5, 4);
    }

    private static void links() {
        DUE.says("link: E's from a to the next YEAR, from that to the next, and so on to b, multiplied (downward, if b is less; 1, if a is b).");
        World w = () -> Worlds.chain(2, 1, 3, 1, 5, 1, 7, 1, 11, 1, 13, 1, 17, 1);
        shareIs(w, "link old", 0, 1, 2, 1);
        shareIs(w, "link old", 0, 2, 6, 1);
        shareIs(w, "link old", 0, 7, 510510, 1);
        shareIs(w, "link old", 3, 6, 7 * 11 * 13, 1);
        shareIs(w, "link old", 6, 7, 17, 1);
        shareIs(w, "link new", 7, 0, 1, 510510);
        shareIs(w, "link new", 7, 6, 1, 17);
        shareIs(w, "link new", 6, 3, 1, 7 * 11 * 13);
        shareIs(w, "back link new", 0, 7, 510510, 1);
        shareIs(w, "link link old", 0, 7, 510510, 1);
        shareIs(w, "link back new", 0, 7, 510510, 1);
        rootIs(w, "link root(old,old)", 1, 3, 225, 1);
        for (int y = 0; y < 8; y++) {
            shareIs(w, "link old", y, y, 1, 1);
            shareIs(w, "link root(old,old)", y, y, 1, 1);
            shareIs(YearBaskets::new, "link plain", y, y, 1, 1);
        }
        refusedIs(() -> Worlds.chain(2, 1, 3, 1), "link old", 0, 3, NOT);
        refusedIs(() -> {
            YearBaskets x = Worlds.chain(2, 1, 3, 1, 5, 1);
            x.price(2, 2, 0);
            return x;
        }, "link old", 0, 3, NOT);
    }

    private static void boths() {
        DUE.says("both: E's with only those GOODS (for all that is in it) that have PRICES in a and b.");
        World w = () -> {
            YearBaskets x = new YearBaskets();
            Due.prices(x, 0, 1, 2, 3, 0, 5);
            Due.prices(x, 1, 2, 0, 5, 6, 5);
            Due.prices(x, 2, 3, 4, 0, 6, 5);
            for (int y = 0; y < 3; y++) {
                Due.basket(x, 0, y, 1, 1, 1, 1, y);
            }
            return x;
        };
        shareIs(w, "both old", 0, 1, 7, 4);
        shareIs(w, "both new", 0, 1, 2 + 5 + 5, 1 + 3 + 5);
        shareIs(w, "both old", 0, 2, 7, 3);
        shareIs(w, "both at 2", 0, 1, 2 + 5 + 10, 1 + 3 + 10);
        shareIs(w, "both sums", 0, 1, 12, 9);
        shareIs(w, "both plain", 1, 2, 3 + 2 + 2, 6);
        shareIs(w, "both back old", 0, 1, 2 + 5 + 5, 1 + 3 + 5);
        shareIs(w, "both mean(sums,old)", 0, 1, 37, 24);
        shareIs(w, "mean(both sums,both old)", 0, 1, 37, 24);
        refusedIs(w, "mean(both sums,old)", 0, 1, NOT);
        refusedIs(w, "both link old", 0, 2, NOT);
        shareIs(w, "link both old", 0, 2, 7 * 14, 4 * 13);
        shareIs(w, "both both old", 0, 2, 7, 3);
        shareIs(w, "both old", 1, 1, 1, 1);
        refusedIs(w, "both old", 0, 3, NOT);
        refusedIs(w, "both sums", 3, 4, NOT);
        refusedIs(w, "both plain", 3, 3, NOT);
    }

    /** link within both asks for GOODS 0 and 4 alone from 0 to 2, in the YEAR between them, too. */
    private static void bothAllTheWay() {
        World w = () -> {
            YearBaskets x = new YearBaskets();
            Due.prices(x, 0, 1, 2, 0, 0, 5);
            Due.prices(x, 1, 3, 7, 0, 0, 5);
            Due.prices(x, 2, 4, 0, 9, 0, 5);
            for (int y = 0; y < 3; y++) {
                Due.basket(x, 0, y, 1, 9, 9, 9, 1);
            }
            return x;
        };
        shareIs(w, "both link old", 0, 2, 9, 6);
        shareIs(w, "both link sums", 0, 2, 9, 6);
        shareIs(w, "both link both old", 0, 2, 9, 6);
        shareIs(w, "link both old", 0, 1, 3 + 63 + 5, 1 + 18 + 5);
    }

    private static void goodsOfNumbers() {
        DUE.says("GOODS are those that have a PRICE in some YEAR (within both: of these); COSTS in a NUMBER are over these alone.");
        World none = () -> {
            YearBaskets x = Worlds.two();
            Due.basket(x, 0, 0, 5, 1, 9, 9, 9);
            Due.basket(x, 0, 1, 2, 4, 9, 9, 9);
            return x;
        };
        shareIs(none, "old", 0, 1, 23, 13);
        shareIs(none, "new", 0, 1, 5, 4);
        shareIs(none, "mid", 0, 1, 43, 29);
        shareIs(none, "at 0", 0, 1, 23, 13);
        shareIs(none, "plain", 0, 1, 3, 2);
        due("COST itself is over all", none.make().cost(0, 0, 0), NOT);
        World far = () -> {
            YearBaskets x = none.make();
            x.price(7, 4, 1);
            return x;
        };
        for (String text : new String[] {"old", "new", "mid", "at 0", "plain", "sums"}) {
            refusedIs(far, text, 0, 1, NOT);
        }
        shareIs(far, "both old", 0, 1, 23, 13);
        shareIs(far, "both plain", 0, 1, 3, 2);
        shareIs(far, "both sums", 0, 1, 7, 5);
        shareIs(() -> {
            YearBaskets x = far.make();
            x.price(7, 4, 0);
            return x;
        }, "old", 0, 1, 23, 13);
    }

    /** Texts eight deep, all told as they stand: in a pair, and one in the other. */
    private static void deepOnes() {
        for (String one : new String[] {"back", "link", "both"}) {
            String six = (one + " ").repeat(6);
            shareIs(Worlds::two, six + one + " old", 0, 1, one.equals("back") ? 5 : 23, one.equals("back") ? 4 : 13);
            shareIs(Worlds::two, six + "most(old,new)", 0, 1, 23, 13);
            shareIs(Worlds::two, six + "most(new,old)", 0, 1, 23, 13);
            shareIs(Worlds::two, six + "mean(new,old)", 0, 1, 157, 104);
            rootIs(Worlds::two, six + "root(new,old)", 0, 1, 115, 52);
        }
        shareIs(Worlds::two, "back back back back back link old", 0, 1, 5, 4);
        shareIs(Worlds::two, "back back back back back both old", 1, 0, 13, 23);
        shareIs(Worlds::two, "most(most(most(most(most(old,new),new),mid),mid),plain)", 0, 1, 23, 13);
        shareIs(Worlds::two, "least(plain,least(mid,least(mid,least(new,least(new,old)))))", 0, 1, 5, 4);
        shareIs(Worlds::two, "least(back back back back back back old,mid)", 0, 1, 43, 29);
        shareIs(Worlds::two, "most(mid,back back back back back back old)", 0, 1, 23, 13);
    }

    // ---- NOT, LARGE, which comes first

    private static void nots() {
        DUE.says("NOT: something HOLED is asked for, a lower number would be 0, a root is multiplied with what is none (in link) "
                + "or is in root or mean; in plain, sums a PRICE that is missing.");
        for (String text : new String[] {"old", "new", "mid", "at 0"}) {
            refusedIs(() -> holed(0, text.equals("new") ? 1 : 0), text, 0, 1, NOT);
            refusedIs(() -> holed(1, text.equals("new") ? 1 : 0), text, 0, 1, NOT);
            worthIs(Worlds::two, text, 1, 0, 1, NOT, NOT, NOT);
            worthIs(Worlds::two, text, 1, 0, 0, NOT, NOT, NOT);
        }
        for (String pair : PAIRS) {
            refusedIs(Worlds::two, pair + "(old,at 7)", 0, 1, NOT);
            refusedIs(Worlds::two, pair + "(at 7,old)", 0, 1, NOT);
        }
        for (String one : new String[] {"back", "link", "both"}) {
            refusedIs(Worlds::two, one + " at 7", 0, 1, NOT);
        }
        refusedIs(() -> holed(0, 0), "plain", 0, 1, NOT);
        refusedIs(() -> holed(1, 1), "sums", 0, 1, NOT);
        refusedIs(Worlds::two, "root(root(old,old),old)", 0, 1, NOT);
        refusedIs(Worlds::two, "mean(old,root(old,old))", 0, 1, NOT);
        rootIs(EdgesOfWorthsTest::mixed, "link least(old,root(at7,at7))", 0, 1, 4, 1);
        shareIs(EdgesOfWorthsTest::mixed, "link least(old,root(at7,at7))", 1, 2, 2, 1);
        refusedIs(EdgesOfWorthsTest::mixed, "link least(old,root(at7,at7))", 0, 2, NOT);
        refusedIs(EdgesOfWorthsTest::mixed, "link most(old,root(at7,at7))", 0, 2, NOT);
        rootIs(EdgesOfWorthsTest::mixed, "link most(root(old,old),root(at7,at7))", 0, 2, 9 * 9, 1);
    }

    /** old rises by 3, then by 2; at 7 by 2, then by 3: from 0 to 1 the root is less, from 1 to 2 it is more. */
    private static YearBaskets mixed() {
        YearBaskets x = Worlds.chain(3, 1, 2, 1);
        x.price(0, 4, 1);
        x.price(1, 4, 2);
        x.price(2, 4, 6);
        x.bought(0, 7, 4, 1);
        return x;
    }

    private static void zeroAtLeast() {
        DUE.says("What is multiplied is 0 at least.");
        World w = () -> Worlds.chain(1, 99, 1, 99, 1, 99, 1, 99, 1, 99, 1, 99, 1, 99);
        shareIs(w, "link old", 0, 7, 1, 99L * 99 * 99 * 99 * 99 * 99 * 99);
        rootIs(w, "root(link old,old)", 0, 1, 1, 99 * 99);
        shareIs(w, "link new", 7, 0, 99L * 99 * 99 * 99 * 99 * 99 * 99, 1);
    }

    private static YearBaskets tenToThe15(int before, int after) {
        YearBaskets x = Worlds.tenToThe15();
        x.price(0, 4, before);
        x.price(7, 4, after);
        x.bought(0, 7, 4, 1);
        return x;
    }

    /** For all together link old from YEAR 0 to 6 is 10 to the 15 and 1, by 21866841. */
    private static YearBaskets oneMore() {
        YearBaskets x = new YearBaskets();
        int[][] prices = {{1, 1, 1, 1, 1}, {96, 66, 89, 1, 89}, {53, 1, 1, 29, 1}, {1, 80, 81, 1, 1}, {89, 1, 1, 61, 1},
            {1, 27, 89, 1, 1}, {3, 1, 1, 1, 1}};
        int[][] amounts = {{27, 27, 27, 0, 26}, {26, 0, 0, 27, 0}, {0, 2, 1, 0, 0}, {1, 0, 0, 2, 0}, {0, 2, 1, 0, 0}, {2, 0, 0, 1, 0}};
        for (int y = 0; y < 7; y++) {
            Due.prices(x, y, prices[y]);
            for (int g = 0; g < 5 && y < 6; g++) {
                int all = amounts[y][g];
                for (int p = 0; p < 3; p++) {
                    x.bought(p, y, g, Math.min(9, Math.max(0, all - 9 * p)));
                }
            }
        }
        return x;
    }

    private static void large() {
        DUE.says("LARGE: some fraction that comes in it (each E, each product of link so far; of plain each sum so far; below a root, too) "
                + "has a number above 10 to the 15 in least terms;");
        shareIs(Worlds::tenToThe15, "link old", 0, 7, TEN_TO_THE_15, 2187);
        shareIs(Worlds::tenToThe15, "link new", 7, 0, 2187, TEN_TO_THE_15);
        worthIs(EdgesOfWorthsTest::oneMore, "link old", 3, 0, 5, (TEN_TO_THE_15 + 1) / 7, 7288947, 0);
        worthIs(EdgesOfWorthsTest::oneMore, "link old", 3, 0, 6, LARGE, LARGE, LARGE);
        worthIs(EdgesOfWorthsTest::oneMore, "link new", 3, 5, 0, 7288947, (TEN_TO_THE_15 + 1) / 7, 0);
        worthIs(EdgesOfWorthsTest::oneMore, "link new", 3, 6, 0, LARGE, LARGE, LARGE);
        // 1009 to the 5 is above 10 to the 15, though the steps behind it would make it less.
        World rise = () -> Worlds.chain(1009, 13, 1009, 13, 1009, 13, 1009, 13, 1009, 13, 13, 1009, 13, 1009);
        shareIs(rise, "link old", 0, 4, 1009L * 1009 * 1009 * 1009, 13 * 13 * 13 * 13);
        shareIs(rise, "link old", 3, 7, 1, 1);
        refusedIs(rise, "link old", 0, 5, LARGE);
        refusedIs(rise, "link old", 0, 6, LARGE);
        refusedIs(rise, "link old", 0, 7, LARGE);
        shareIs(rise, "link new", 4, 0, 13 * 13 * 13 * 13, 1009L * 1009 * 1009 * 1009);
        refusedIs(rise, "link new", 5, 0, LARGE);
        shareIs(rise, "link new", 6, 0, 13 * 13 * 13 * 13, 1009L * 1009 * 1009 * 1009);
        for (String text : new String[] {"back link new", "link link old", "most(link old,at 0)", "least(at 0,link old)"}) {
            refusedIs(rise, text, 0, 5, LARGE);
        }
        refusedIs(() -> {
            YearBaskets x = rise.make();
            x.price(0, 2, 1);
            x.price(0, 3, 1);
            return x;
        }, "both link old", 0, 5, LARGE);
    }

    private static void largeBelowARoot() {
        rootIs(() -> tenToThe15(1, 1), "root(link old,at 7)", 0, 7, TEN_TO_THE_15, 2187);
        rootIs(() -> tenToThe15(1, 3), "root(link old,at 7)", 0, 7, TEN_TO_THE_15, 729);
        rootIs(() -> tenToThe15(2, 1), "root(at 7,link old)", 0, 7, TEN_TO_THE_15 / 2, 2187);
        refusedIs(() -> tenToThe15(1, 2), "root(link old,at 7)", 0, 7, LARGE);
        refusedIs(() -> tenToThe15(98, 99), "root(link old,at 7)", 0, 7, LARGE);
        rootIs(() -> tenToThe15(1, 1), "root(link new,at 7)", 7, 0, 2187, TEN_TO_THE_15);
        refusedIs(() -> tenToThe15(1, 2), "root(link new,at 7)", 7, 0, LARGE);
        rootIs(() -> tenToThe15(2, 1), "root(link new,at 7)", 7, 0, 2187, TEN_TO_THE_15 / 2);
    }

    /** As far as PRICES go, a sum of plain stays below 10 to the 15. */
    private static void greatestOfPlain() {
        int[] before = {97, 89, 83, 79, 73};
        int[] after = {98, 99, 95, 92, 91};
        World w = () -> {
            YearBaskets x = new YearBaskets();
            Due.prices(x, 0, before);
            Due.prices(x, 1, after);
            return x;
        };
        BigInteger low = BigInteger.ONE;
        for (int v : before) {
            low = low.multiply(BigInteger.valueOf(v));
        }
        BigInteger up = BigInteger.ZERO;
        for (int g = 0; g < 5; g++) {
            up = up.add(low.divide(BigInteger.valueOf(before[g])).multiply(BigInteger.valueOf(after[g])));
        }
        low = low.multiply(BigInteger.valueOf(5));
        BigInteger by = up.gcd(low);
        shareIs(w, "plain", 0, 1, up.divide(by).longValueExact(), low.divide(by).longValueExact());
    }

    private static void largeMeans() {
        DUE.says("of mean, of the sums of plain also: the least common lower number, or an upper one by it, is above that.");
        // Exactly 10 to the 15: an upper one, the lower one.
        shareIs(Worlds::tenToThe15, "mean(link old,link old)", 0, 7, TEN_TO_THE_15, 2187);
        shareIs(Worlds::tenToThe15, "mean(link new,link new)", 7, 0, 2187, TEN_TO_THE_15);
        // Half of it is LARGE itself: 10 to the 15 and 2187; by 2 times 10 to the 15.
        refusedIs(() -> tenToThe15(1, 1), "mean(link old,at 7)", 0, 7, LARGE);
        refusedIs(() -> tenToThe15(1, 1), "mean(link new,at 7)", 7, 0, LARGE);
        // Both together are above it, by 4374, half of them is not.
        shareIs(() -> tenToThe15(1, 2), "mean(link old,at 7)", 0, 7, TEN_TO_THE_15 / 2 + 2187, 2187);
        // An upper one by the least common lower number: 4096000 or 4608000 times 244140625.
        int[] ahead = {0, 25, 25, 25, 25, 25, 25, 1};
        int[] now = {1, 1, 1, 1, 1, 1, 1, 2};
        for (String text : new String[] {"mean(link old,link new)", "mean(link new,link old)"}) {
            shareIs(() -> Worlds.rows(ahead, now, new int[] {8, 8, 8, 8, 8, 5, 25, 0}), text, 0, 7, TEN_TO_THE_15 / 2 + 1, 244140625);
            refusedIs(() -> Worlds.rows(ahead, now, new int[] {9, 8, 8, 8, 8, 5, 25, 0}), text, 0, 7, LARGE);
        }
        // The least common lower number alone: 953718633867120 or 1000241494055760, of which half would stay.
        int[] next = {16, 11, 5, 9, 1, 11, 11, 7};
        int[] last = {1, 1, 1, 3, 1, 19, 1, 0};
        for (String text : new String[] {"mean(link old,link new)", "mean(link new,link old)"}) {
            shareIs(() -> Worlds.rows(new int[] {0, 31, 23, 53, 41, 41, 47, 16}, next, last), text, 0, 7, 32548470331L, 953718633867120L);
            refusedIs(() -> Worlds.rows(new int[] {0, 31, 23, 53, 41, 43, 47, 16}, next, last), text, 0, 7, LARGE);
        }
    }

    /** link old is LARGE from 0 to 5 and NOT from 0 to 6; at 7 is NOT, at 0 is a fraction. */
    private static YearBaskets rising() {
        return Worlds.chain(1009, 13, 1009, 13, 1009, 13, 1009, 13, 1009, 13);
    }

    private static void whichComesFirst() {
        DUE.says("Of NOT and LARGE: that which comes first (E's from left to right, a root or mean is made behind both).");
        World w = EdgesOfWorthsTest::rising;
        for (String pair : PAIRS) {
            refusedIs(w, pair + "(at 7,link old)", 0, 5, NOT);
            refusedIs(w, pair + "(link old,at 7)", 0, 5, LARGE);
            refusedIs(w, pair + "(at 0,link old)", 0, 5, LARGE);
            refusedIs(w, pair + "(at 0,at 7)", 0, 5, NOT);
            refusedIs(w, pair + "(root(at0,at0),link old)", 0, 5, LARGE);
            refusedIs(w, pair + "(root(at0,at0),at 7)", 0, 5, NOT);
        }
        refusedIs(w, "root(root(at0,at0),at 0)", 0, 5, NOT);
        refusedIs(w, "mean(mean(root(at0,at0),at0),link old)", 0, 5, NOT);
        refusedIs(w, "mean(link old,mean(root(at0,at0),at0))", 0, 5, LARGE);
        refusedIs(w, "back most(link new,at 7)", 0, 5, LARGE);
        // The product of five steps comes ahead of a sixth that is NOT; a first one that is NOT ahead of all.
        refusedIs(w, "link old", 0, 6, LARGE);
        refusedIs(w, "link old", 0, 7, LARGE);
        refusedIs(() -> {
            YearBaskets x = rising();
            x.price(0, 0, 0);
            return x;
        }, "link old", 0, 5, NOT);
        refusedIs(() -> {
            YearBaskets x = rising();
            x.price(4, 0, 0);
            x.price(4, 1, 0);
            return x;
        }, "link old", 0, 5, NOT);
        largeSteps();
        // From 1 to 2 a root meets a fraction, ahead of what would be LARGE.
        refusedIs(() -> {
            YearBaskets x = rising();
            x.price(0, 4, 1);
            x.price(1, 4, 99);
            x.price(2, 4, 1);
            for (int y = 3; y < 6; y++) {
                x.price(y, 4, 1);
            }
            x.bought(0, 7, 4, 1);
            return x;
        }, "link most(root(at7,at7),old)", 0, 5, NOT);
    }

    /** A step is LARGE itself between YEARS 1 and 2, where all five GOODS have PRICES that are prime. */
    private static void largeSteps() {
        World w = () -> {
            YearBaskets x = new YearBaskets();
            Due.prices(x, 0, 2, 0, 0, 0, 0);
            Due.prices(x, 1, 97, 89, 83, 79, 73);
            Due.prices(x, 2, 61, 67, 71, 59, 53);
            Due.prices(x, 3, 2, 0, 0, 0, 0);
            return x;
        };
        String text = "link root(both plain,both plain)";
        rootIs(w, text, 0, 1, 97 * 97, 4);
        refusedIs(w, text, 1, 2, LARGE);
        refusedIs(w, text, 0, 2, LARGE);
        refusedIs(w, text, 0, 3, LARGE);
        refusedIs(w, text, 1, 4, LARGE);
        refusedIs(w, text, 3, 0, LARGE);
        rootIs(w, text, 2, 3, 4, 61 * 61);
        refusedIs(w, text, 2, 4, NOT);
        refusedIs(w, text, 4, 1, NOT);
        refusedIs(w, text, 3, 7, NOT);
    }

    // ---- ORDER

    private static int orderOf(YearBaskets x, String one, String other, int a, int b) {
        return x.order(Due.numberOf(x, one), Due.numberOf(x, other), 0, a, b);
    }

    private static void orderIs(World world, String one, String other, int a, int b, int want) {
        due("order of " + one + ", " + other, orderOf(world.make(), one, other, a, b), want);
        due("order of " + other + ", " + one, orderOf(world.make(), other, one, a, b), want >= -1 ? -want : want);
    }

    private static void orders() {
        DUE.says("ORDER of two WORTHS: less, alike, more: roots as they are.");
        orderIs(Worlds::two, "new", "old", 0, 1, -1);
        orderIs(Worlds::two, "old", "old", 0, 1, 0);
        orderIs(Worlds::two, "old", "at 0", 0, 1, 0);
        orderIs(Worlds::two, "root(old,old)", "old", 0, 1, 0);
        orderIs(Worlds::two, "root(old,new)", "old", 0, 1, -1);
        orderIs(Worlds::two, "root(old,new)", "new", 0, 1, 1);
        orderIs(Worlds::two, "root(old,new)", "root(new,old)", 0, 1, 0);
        orderIs(Worlds::two, "root(old,new)", "root(old,old)", 0, 1, -1);
        // sqrt(115 / 52) is 1.487..: below plain 3 / 2, above mid 43 / 29.
        orderIs(Worlds::two, "root(old,new)", "plain", 0, 1, -1);
        orderIs(Worlds::two, "root(old,new)", "mid", 0, 1, 1);
        // Below 1 a root is more than what stands below it.
        orderIs(Worlds::two, "root(old,new)", "mid", 1, 0, -1);
        orderIs(Worlds::two, "root(at0,at0)", "at 0", 1, 0, 0);
        // Both roots: 10 to the 15 by 2187, and by 729; nothing is multiplied.
        orderIs(() -> tenToThe15(1, 1), "root(link old,at 7)", "root(at 7,link old)", 0, 7, 0);
        orderIs(() -> tenToThe15(1, 3), "root(link old,at 7)", "root(at 7,at 7)", 0, 7, 1);
        orderIs(() -> tenToThe15(1, 1), "link old", "link link old", 0, 7, 0);
        orderIs(() -> tenToThe15(1, 1), "link new", "at 7", 7, 0, -1);
    }

    /** link old from 0 to 4 has 31622768 above 5, or 31622778 above 35; at 7 doubles. */
    private static YearBaskets nearTheRoot(boolean above) {
        YearBaskets x = above ? Worlds.chain(383, 5, 139, 7, 99, 1, 6, 1) : Worlds.chain(419, 5, 89, 1, 53, 1, 16, 1);
        x.price(0, 4, 1);
        x.price(4, 4, 2);
        x.bought(0, 7, 4, 1);
        return x;
    }

    private static void ordersThatAreLarge() {
        DUE.says("(If one is a root, the other one is multiplied by itself; LARGE, if that is so.)");
        shareIs(() -> nearTheRoot(false), "link old", 0, 4, 31622768, 5);
        shareIs(() -> nearTheRoot(true), "link old", 0, 4, 31622778, 35);
        orderIs(() -> nearTheRoot(false), "link old", "root(at7,at7)", 0, 4, 1);
        orderIs(() -> nearTheRoot(true), "link old", "root(at7,at7)", 0, 4, LARGE);
        orderIs(() -> nearTheRoot(false), "link new", "root(at7,at7)", 4, 0, -1);
        orderIs(() -> nearTheRoot(true), "link new", "root(at7,at7)", 4, 0, LARGE);
        orderIs(() -> nearTheRoot(true), "link old", "at7", 0, 4, 1);
        orderIs(() -> nearTheRoot(true), "root(link old,at7)", "root(at7,at7)", 0, 4, 1);
        orderIs(() -> nearTheRoot(true), "root(link old,at7)", "at7", 0, 4, 1);
        for (String word : new String[] {"least", "most"}) {
            refusedIs(() -> nearTheRoot(true), word + "(link old,root(at7,at7))", 0, 4, LARGE);
            refusedIs(() -> nearTheRoot(true), word + "(root(at7,at7),link new)", 4, 0, LARGE);
        }
        rootIs(() -> nearTheRoot(false), "least(link old,root(at7,at7))", 0, 4, 4, 1);
        shareIs(() -> nearTheRoot(false), "most(root(at7,at7),link old)", 0, 4, 31622768, 5);
        shareIs(() -> nearTheRoot(true), "most(at7,link old)", 0, 4, 31622778, 35);
    }

    // ---- promises 10 and 11

    private static void promise10() {
        DUE.says("WORTH of a NUMBER: what = 0 the upper, 1 the lower number, 2 whether it is a root (1, 0; of one the fraction below it is told). "
                + "UNKNOWN, OUTSIDE, NOT, LARGE.");
        rootIs(Worlds::two, "root(old,new)", 0, 1, 115, 52);
        shareIs(Worlds::two, "old", 0, 1, 23, 13);
        YearBaskets x = rising();
        for (int n = 0; n < 8; n++) {
            due("worth(" + n + ", ..) ahead of it", x.worth(n, 0, 0, 1, 0), UNKNOWN);
            Due.numberOf(x, n == 7 ? "link old" : "old");
        }
        DUE.edges("worth(n, ..)", 0, 7, UNKNOWN, n -> x.worth(n, 0, 0, 1, 0));
        DUE.edges("worth(.., what)", 0, 2, OUTSIDE, what -> x.worth(7, 0, 0, 1, what));
        due("worth: UNKNOWN ahead of OUTSIDE", x.worth(8, 0, 0, 1, 3), UNKNOWN);
        due("worth: OUTSIDE ahead of NOT", x.worth(0, 1, 0, 1, 3), OUTSIDE);
        due("worth: OUTSIDE ahead of LARGE", x.worth(7, 0, 0, 5, -1), OUTSIDE);
        for (int what = 0; what < 3; what++) {
            due("worth: NOT, what " + what, x.worth(0, 1, 0, 1, what), NOT);
            due("worth: LARGE, what " + what, x.worth(7, 0, 0, 5, what), LARGE);
        }
    }

    private static void promise11() {
        DUE.says("ORDER of WORTHS of two NUMBERS: -1 less, 0 alike, 1 more. UNKNOWN, NOT, LARGE (the first NUMBER's ahead).");
        YearBaskets x = nearTheRoot(true);
        String[] texts = {"link old", "root(at7,at7)", "at 6", "mean(link old,link new)", "at 7", "root(link old,link old)"};
        for (String text : texts) {
            Due.numberOf(x, text);
        }
        DUE.edges("order(n, ..)", 0, 5, UNKNOWN, n -> x.order(n, 4, 0, 0, 1));
        DUE.edges("order(.., m, ..)", 0, 5, UNKNOWN, m -> x.order(4, m, 0, 0, 1));
        due("less", x.order(4, 0, 0, 0, 4), -1);
        due("alike", x.order(0, 0, 0, 0, 4), 0);
        due("more", x.order(0, 4, 0, 0, 4), 1);
        due("the first is NOT, the other one LARGE", x.order(2, 5, 0, 0, 4), NOT);
        due("the first is LARGE, the other one NOT", x.order(5, 2, 0, 0, 4), LARGE);
        due("the first is fine, the other one NOT", x.order(0, 2, 0, 0, 4), NOT);
        due("the first is fine, the other one LARGE", x.order(4, 5, 0, 0, 4), LARGE);
        due("both are fine, the ORDER is LARGE", x.order(0, 1, 0, 0, 4), LARGE);
        due("the first would make a LARGE ORDER, the other one is NOT", x.order(1, 2, 0, 0, 4), NOT);
        due("UNKNOWN ahead of the first one's LARGE", x.order(5, 6, 0, 0, 4), UNKNOWN);
    }

    public static void main(String[] args) {
        worthForWho();
        oldOnes();
        newOnes();
        midOnes();
        atYears();
        plainOnes();
        sumsOfPrices();
        roots();
        means();
        leastAndMost();
        backs();
        links();
        boths();
        bothAllTheWay();
        goodsOfNumbers();
        deepOnes();
        nots();
        zeroAtLeast();
        large();
        largeBelowARoot();
        greatestOfPlain();
        largeMeans();
        whichComesFirst();
        orders();
        ordersThatAreLarge();
        promise10();
        promise11();
        DUE.end("EdgesOfWorthsTest");
    }
}
