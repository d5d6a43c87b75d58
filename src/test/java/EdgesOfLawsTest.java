/** Sentence by sentence: LAWS, BREACH, CLASH, DRIFT, and promises 12 to 15. */
public final class EdgesOfLawsTest {
    private static final int NONE = YearBaskets.NONE, UNKNOWN = YearBaskets.UNKNOWN, OUTSIDE = YearBaskets.OUTSIDE;
    private static final int NOT = YearBaskets.NOT, LARGE = YearBaskets.LARGE;
    private static final int SAME = 0, BACK = 1, THIRD = 2, TWICE = 3, UNITS = 4, UP = 5, BETWEEN = 6;
    private static final Due DUE = new Due();

    private static void due(String call, long got, long want) {
        DUE.due(call, got, want);
    }

    private static void keptIs(YearBaskets x, String text, int law, int want) {
        int n = Due.numberOf(x, text);
        due("keeps of " + text + ", law " + law, x.keeps(n, 0, law), want);
    }

    private static void breachIs(YearBaskets x, String text, int law, int a, int b, int third) {
        int n = Due.numberOf(x, text);
        String call = "breach of " + text + ", law " + law + ", ";
        due(call + "a", x.breach(n, 0, law, 0), a);
        due(call + "b", x.breach(n, 0, law, 1), b);
        due(call + "c or g", x.breach(n, 0, law, 2), third);
        due("keeps of " + text + ", law " + law, x.keeps(n, 0, law), a == NONE ? 1 : 0);
    }

    private static void unbroken(YearBaskets x, String text, int law) {
        breachIs(x, text, law, NONE, NONE, NONE);
    }

    /** Prices of YEAR 2 are those of YEAR 0 again, the baskets go on changing. */
    private static YearBaskets three() {
        YearBaskets x = Worlds.two();
        Due.prices(x, 2, 2, 3);
        Due.basket(x, 0, 2, 1, 6);
        return x;
    }

    /** Three YEARS of three GOODS, all PRICES prime: products of fractions of plain come above 10 to the 15. */
    private static YearBaskets primes() {
        YearBaskets x = new YearBaskets();
        Due.prices(x, 0, 97, 89, 83, 79, 73);
        Due.prices(x, 1, 61, 67, 71, 59, 53);
        Due.prices(x, 2, 41, 43, 47, 37, 31);
        for (int y = 0; y < 3; y++) {
            Due.basket(x, 0, y, 1 + y, 2, 3, 4, 5);
        }
        return x;
    }

    // ---- what is looked at

    private static void forAllYears() {
        DUE.says("LAWS 0 to 6, for WHO, looked at for all YEARS (a, b unlike; c unlike both), GOODS (of those there are) as they are wanted, "
                + "in order of a, b, then c or g;");
        YearBaskets x = three();
        int old = Due.numberOf(x, "old");
        DUE.edges("keeps(.., law)", 0, 6, UNKNOWN, law -> x.keeps(old, 0, law));
        DUE.edges("breach(.., law, 0)", 0, 6, UNKNOWN, law -> x.breach(old, 0, law, 0));
        due("BACK for one who BOUGHT nothing", x.keeps(old, 2, BACK), 1);
        x.bought(2, 0, 0, 9);
        x.bought(2, 1, 1, 9);
        due("BACK for another one: broken for PERSON 2", x.keeps(old, 2, BACK), 0);
        due("BACK for PERSON 1", x.keeps(old, 1, BACK), 1);
        // Two YEARS alone: what does not go back keeps THIRD, as c is unlike both; a like b would break TWICE.
        keptIs(Worlds.two(), "old", BACK, 0);
        keptIs(Worlds.two(), "old", THIRD, 1);
        keptIs(Worlds.two(), "old", TWICE, 1);
        // SAME: PRICES of 5 and 6 are like, so from 5 to 7 it is kept; from 7 to 5 it is not, and to 4 it is HOLED.
        YearBaskets late = new YearBaskets();
        Due.prices(late, 5, 1, 1, 1);
        Due.prices(late, 6, 1, 1, 1);
        Due.prices(late, 7, 1, 2);
        Due.basket(late, 0, 5, 1, 1, 1);
        Due.basket(late, 0, 6, 0, 1);
        Due.basket(late, 0, 7, 1, 0);
        breachIs(late, "link old", SAME, 7, 5, NONE);
        // BACK: 0 and 7 have two GOODS, 1 and 2 two others: (0, 7) comes ahead of (1, 2).
        YearBaskets apart = new YearBaskets();
        for (int y : new int[] {0, 7, 1, 2}) {
            int g = y % 7 == 0 ? 0 : 2;
            x.price(y, g, 1);
            apart.price(y, g, y % 2 == 0 ? 1 : 2);
            apart.price(y, g + 1, 3);
            apart.bought(0, y, g, 1 + y);
            apart.bought(0, y, g + 1, 1);
        }
        breachIs(apart, "old", BACK, 0, 7, NONE);
        apart.bought(0, 7, 0, 1);
        breachIs(apart, "old", BACK, 1, 2, NONE);
        apart.price(0, 0, 0);
        breachIs(apart, "new", BACK, 1, 2, NONE);
    }

    /** The last triple of all, (7, 6, 5), and the first by c: 1 comes ahead of 2. */
    private static void thirdsInOrder() {
        breachIs(three(), "link old", THIRD, 0, 2, 1);
        breachIs(three(), "old", THIRD, 0, 1, 2);
        YearBaskets x = new YearBaskets();
        for (int y = 5; y < 8; y++) {
            Due.prices(x, y, 1 + y % 3, 2, y);
            Due.basket(x, 0, y, 1, y - 4, 1);
        }
        breachIs(x, "old", THIRD, 5, 6, 7);
        // Of four YEARS: YEAR 2 is like YEAR 1 in all, so the first c that breaks it from 0 to 1 is 3.
        YearBaskets four = new YearBaskets();
        for (int y = 0; y < 4; y++) {
            Due.prices(four, y, new int[] {1, 3, 3, 7}[y], 2);
            Due.basket(four, 0, y, new int[] {1, 2, 2, 9}[y], 3);
        }
        breachIs(four, "old", THIRD, 0, 1, 3);
        four.price(2, 0, 5);
        breachIs(four, "old", THIRD, 0, 1, 2);
        // YEAR 1 is like YEAR 0 in all: from 0 by 1 it is kept, from 0 by 2 to 1 it is not.
        four.price(1, 0, 1);
        four.bought(0, 1, 0, 1);
        breachIs(four, "old", THIRD, 0, 2, 1);
        // Two YEARS are left: there is no third one.
        Due.prices(four, 0, 0, 0);
        Due.prices(four, 1, 0, 0);
        unbroken(four, "old", THIRD);
    }

    /** new asks for the basket of b: nothing is BOUGHT in 1, so what comes to 1 is NOT, and 0 is the least b. */
    private static void thirdsByTheLeastYear() {
        YearBaskets x = new YearBaskets();
        Due.prices(x, 0, 1, 5);
        Due.prices(x, 1, 2, 7);
        Due.prices(x, 2, 3, 1);
        Due.basket(x, 0, 0, 4, 1);
        Due.basket(x, 0, 2, 1, 4);
        breachIs(x, "new", THIRD, 1, 0, 2);
        YearBaskets last = new YearBaskets();
        Due.prices(last, 7, 1, 5);
        Due.prices(last, 6, 2, 7);
        Due.prices(last, 5, 3, 1);
        Due.basket(last, 0, 7, 4, 1);
        Due.basket(last, 0, 5, 1, 4);
        breachIs(last, "new", THIRD, 6, 5, 7);
        Due.basket(last, 0, 5, 0, 0);
        unbroken(last, "new", THIRD);
    }

    /** sums breaks UNITS by each GOOD but one whose PRICE goes as all together go. */
    private static void unitsInOrder() {
        for (int g = 0; g < 5; g++) {
            YearBaskets x = new YearBaskets();
            for (int h = g; h < 5; h++) {
                x.price(6, h, 1);
                x.price(7, h, h == 4 ? 3 : 2);
            }
            if (g == 4) {
                unbroken(x, "sums", UNITS);
            } else {
                breachIs(x, "sums", UNITS, 6, 7, g);
                x.price(7, 4, 2);
                unbroken(x, "sums", UNITS);
            }
        }
        YearBaskets x = new YearBaskets();
        Due.prices(x, 0, 2, 2, 2, 3, 1);
        Due.prices(x, 1, 4, 4, 4, 5, 3);
        breachIs(x, "sums", UNITS, 0, 1, 3);
        x.price(0, 3, 0);
        x.price(1, 3, 0);
        x.price(0, 4, 3);
        x.price(1, 4, 5);
        breachIs(x, "sums", UNITS, 0, 1, 0);
        x.price(1, 4, 6);
        unbroken(x, "sums", UNITS);
        // plain and sums are 2: with GOOD 3 doubled sums is more, with GOOD 4 doubled it is less.
        YearBaskets last = new YearBaskets();
        Due.prices(last, 6, 0, 0, 0, 1, 1);
        Due.prices(last, 7, 0, 0, 0, 3, 1);
        breachIs(last, "least(plain,sums)", UNITS, 6, 7, 4);
        breachIs(last, "most(plain,sums)", UNITS, 6, 7, 3);
    }

    private static void passedOver() {
        DUE.says("what is NOT or LARGE there (ORDER, too) is passed over;");
        // NOT wherever one looks, LARGE wherever one looks: all is kept; with small PRICES it is not.
        YearBaskets none = Worlds.two();
        int not = Due.numberOf(none, "root(root(old,new),sums)");
        YearBaskets large = primes();
        int big = Due.numberOf(large, "root(plain,mean(plain,sums))");
        YearBaskets small = three();
        int fine = Due.numberOf(small, "root(plain,mean(plain,sums))");
        due("it is NOT", none.worth(not, 0, 0, 1, 0), NOT);
        due("it is LARGE", large.worth(big, 0, 0, 1, 0), LARGE);
        for (int law = 0; law < 7; law++) {
            due("keeps of what is NOT, law " + law, none.keeps(not, 0, law), 1);
            due("keeps of what is LARGE, law " + law, large.keeps(big, 0, law), 1);
            boolean broken = law == BACK || law == THIRD || law == UNITS;
            due("keeps of what is neither, law " + law, small.keeps(fine, 0, law), broken ? 0 : 1);
        }
        // Products alone are LARGE: plain itself is not.
        YearBaskets products = primes();
        int plain = Due.numberOf(products, "plain");
        due("plain is not LARGE", products.worth(plain, 0, 0, 1, 1), 97L * 89 * 83 * 79 * 73);
        due("BACK by products that are LARGE", products.keeps(plain, 0, BACK), 1);
        due("THIRD by products that are LARGE", products.keeps(plain, 0, THIRD), 1);
        breachIs(three(), "plain", BACK, 0, 1, NONE);
        breachIs(three(), "plain", THIRD, 0, 1, 2);
        // A root times what is none, as in link: from 0 to 1 it is a root both ways, from 1 to 2 a fraction.
        breachIs(three(), "least(old,root(old,new))", BACK, 1, 2, NONE);
        sameWithLargeLinks();
        thirdByALargeOrder();
        unitsByALargeOrder();
    }

    /**
     * GOOD 4, BOUGHT in YEAR 7, has PRICES in 0 and the last YEAR alone, and in the YEARS between them GOOD 2 is BOUGHT,
     * that has none in 0: so SAME is NOT but from 0 to the last YEAR.
     */
    private static void sameWithLargeLinks() {
        YearBaskets three = Worlds.chain(1009, 13, 1009, 13, 1009, 13);
        three.bought(0, 7, 4, 1);
        three.price(0, 4, 1);
        three.price(3, 4, 1);
        breachIs(three, "root(link old,at 7)", SAME, 0, 3, NONE);
        YearBaskets seven = Worlds.chain(1009, 13, 1009, 13, 1009, 13, 1009, 13, 1009, 13, 1009, 13, 1009, 13);
        seven.bought(0, 2, 2, 1);
        seven.bought(0, 4, 2, 1);
        seven.bought(0, 7, 4, 1);
        seven.price(0, 4, 1);
        seven.price(7, 4, 1);
        unbroken(seven, "root(link old,at 7)", SAME);
    }

    /** From 0 to 1 to 2 it is a fraction, from 0 to 2 a root: the product multiplied by itself is LARGE. */
    private static void thirdByALargeOrder() {
        YearBaskets x = new YearBaskets();
        Due.prices(x, 0, 41, 1, 88);
        Due.prices(x, 1, 18, 23, 20);
        Due.prices(x, 2, 79, 38, 81);
        Due.basket(x, 0, 0, 9, 3, 8);
        Due.basket(x, 0, 1, 5, 1, 8);
        Due.basket(x, 0, 2, 6, 7, 0);
        int n = Due.numberOf(x, "least(mean(old,new),root(mid,mid))");
        due("a fraction from 0 to 1", x.worth(n, 0, 0, 1, 2), 0);
        due("a fraction from 1 to 2", x.worth(n, 0, 1, 2, 2), 0);
        due("a root from 0 to 2", x.worth(n, 0, 0, 2, 2), 1);
        breachIs(x, "least(mean(old,new),root(mid,mid))", THIRD, 0, 2, 1);
    }

    /** With GOOD 0 doubled each step is a root; as it is, each is a fraction: their ORDER is LARGE, or it is not. */
    private static void unitsByALargeOrder() {
        String text = "least(link least(mean(both sums,old),root(old,old)),at7)";
        YearBaskets large = stepsBySums(new int[][] {{14, 89}, {38, 89}, {97, 84}});
        breachIs(large, text, UNITS, 0, 2, 1);
        YearBaskets small = stepsBySums(new int[][] {{1, 2}, {2, 2}, {6, 2}});
        breachIs(small, text, UNITS, 0, 2, 0);
    }

    private static YearBaskets stepsBySums(int[][] prices) {
        YearBaskets x = new YearBaskets();
        for (int y = 0; y < 3; y++) {
            Due.prices(x, y, prices[y]);
            Due.basket(x, 0, y, 3, 2);
        }
        x.price(0, 4, 1);
        x.price(2, 4, 99);
        x.bought(0, 7, 4, 1);
        return x;
    }

    private static void alikeByOrder() {
        DUE.says("WORTHS are alike, if their ORDER is:");
        // A root that is 1, and 1: SAME and BACK are kept.
        for (int law : new int[] {SAME, BACK}) {
            unbroken(three(), "root(old,new)", law);
            unbroken(three(), "root(mid,mid)", law);
        }
        // With GOOD 0 doubled sums is more than old, and the root of old times old, as much as sums was, comes in its place.
        YearBaskets x = new YearBaskets();
        Due.prices(x, 0, 1, 1);
        Due.prices(x, 1, 3, 1);
        Due.basket(x, 0, 0, 1, 1);
        Due.basket(x, 0, 1, 1, 1);
        breachIs(x, "least(sums,root(old,old))", UNITS, 0, 1, 1);
        breachIs(x, "most(sums,root(old,old))", UNITS, 0, 1, 0);
        breachIs(x, "sums", UNITS, 0, 1, 0);
    }

    // ---- each LAW

    private static void same() {
        DUE.says("0 SAME: with the PRICES of a in the place of b's WORTH from a to b is 1.");
        for (String text : new String[] {"old", "new", "mid", "at 1", "plain", "sums", "root(old,new)", "mean(old,new)"}) {
            unbroken(three(), text, SAME);
        }
        breachIs(three(), "link old", SAME, 0, 2, NONE);
        // It is b that gets the PRICES, and those that are missing in a, too: then GOOD 3 is HOLED from 1 on.
        unbroken(special(), "link root(old,new)", SAME);
        breachIs(special(), "link both root(old,new)", SAME, 0, 2, NONE);
        // b may have no PRICES of its own: from 1 by 2 to 3, where there are none, with those of 1.
        YearBaskets bare = three();
        Due.prices(bare, 0, 0, 0);
        Due.prices(bare, 2, 5, 1);
        breachIs(bare, "link old", SAME, 1, 3, NONE);
        // A GOOD that b alone has is none then: old of all that is left is 1.
        YearBaskets x = Worlds.two();
        x.price(1, 2, 5);
        x.bought(0, 0, 2, 1);
        unbroken(x, "old", SAME);
        unbroken(x, "sums", SAME);
        // Link by link from 0 to 2, with PRICES of 0 in 2: up by 3 and down by 2.
        YearBaskets up = new YearBaskets();
        Due.prices(up, 0, 1, 1);
        Due.prices(up, 1, 3, 2);
        Due.prices(up, 2, 9, 9);
        Due.basket(up, 0, 0, 1, 0);
        Due.basket(up, 0, 1, 0, 1);
        breachIs(up, "link old", SAME, 0, 2, NONE);
        Due.basket(up, 0, 1, 1, 0);
        unbroken(up, "link old", SAME);
    }

    /** GOOD 3 has PRICES in 1 and 2, GOOD 4 in 0 and 1; GOODS 0 and 1 cost in 2 what they cost in 0. */
    private static YearBaskets special() {
        YearBaskets x = new YearBaskets();
        Due.prices(x, 0, 1, 10, 0, 0, 3);
        Due.prices(x, 1, 10, 1, 0, 2, 4);
        Due.prices(x, 2, 1, 10, 0, 5, 0);
        Due.basket(x, 0, 0, 3, 1, 0, 0, 1);
        Due.basket(x, 0, 1, 1, 2, 0, 0, 0);
        Due.basket(x, 0, 2, 2, 2, 0, 1, 0);
        return x;
    }

    private static void backLaw() {
        DUE.says("1 BACK: WORTH from a to b times that from b to a is 1.");
        for (String text : new String[] {"root(old,new)", "mid", "sums", "at 1", "link mid", "link root(old,new)"}) {
            unbroken(three(), text, BACK);
        }
        for (String text : new String[] {"old", "new", "plain", "mean(old,new)", "link old", "back old"}) {
            breachIs(three(), text, BACK, 0, 1, NONE);
        }
        breachIs(three(), "most(sums,old)", BACK, 0, 1, NONE);
        YearBaskets x = three();
        Due.basket(x, 0, 1, 5, 1);
        breachIs(x, "old", BACK, 1, 2, NONE);
        Due.basket(x, 0, 2, 5, 1);
        unbroken(x, "old", BACK);
    }

    private static void third() {
        DUE.says("2 THIRD: that from a to b times that from b to c is that from a to c.");
        for (String text : new String[] {"sums", "at 0", "at 2", "link mid", "link root(old,new)"}) {
            unbroken(three(), text, THIRD);
        }
        breachIs(three(), "old", THIRD, 0, 1, 2);
        breachIs(three(), "root(old,new)", THIRD, 0, 1, 2);
        breachIs(three(), "link old", THIRD, 0, 2, 1);
        // Steps upward are what they are by links; back from 2 to 1 they are not.
        breachIs(three(), "link plain", THIRD, 0, 2, 1);
    }

    private static void twice() {
        DUE.says("3 TWICE: with all PRICES of b doubled WORTH is twice as much.");
        String[] texts = {"old", "new", "mid", "at 0", "plain", "sums", "root(old,new)", "mean(old,plain)", "least(old,root(old,new))",
            "most(sums,new)", "back old", "back root(plain,sums)", "link old", "link root(old,new)", "both sums", "back link new"};
        for (String text : texts) {
            unbroken(three(), text, TWICE);
        }
        // 2 times 10 to the 15 would be LARGE, and is passed over.
        unbroken(Worlds.tenToThe15(), "link old", TWICE);
        unbroken(Worlds.full(), "mean(old,new)", TWICE);
    }

    private static void units() {
        DUE.says("4 UNITS: with PRICES of g doubled in all YEARS, and all but g BOUGHT twice as much in all YEARS, WORTH is the same.");
        for (String text : new String[] {"old", "new", "mid", "at 2", "plain", "root(old,new)", "link old", "back new"}) {
            unbroken(three(), text, UNITS);
        }
        breachIs(three(), "sums", UNITS, 0, 1, 0);
        breachIs(three(), "mean(old,sums)", UNITS, 0, 1, 0);
        breachIs(three(), "root(sums,plain)", UNITS, 0, 1, 0);
        // In all YEARS: what was BOUGHT in 7, and what costs as much in 0 and 7, is a matter of units, too.
        for (int g = 0; g < 5; g++) {
            YearBaskets x = Worlds.full();
            Due.basket(x, 0, 7, 1, 2, 3, 4, 5);
            unbroken(x, "at 7", UNITS);
            unbroken(x, "link mean(old,at 7)", UNITS);
        }
        // Unlike UNITS, GOODS that are alike: two of them, whose PRICES go alike.
        YearBaskets alike = new YearBaskets();
        Due.prices(alike, 0, 2, 4);
        Due.prices(alike, 1, 3, 6);
        unbroken(alike, "sums", UNITS);
    }

    private static void up() {
        DUE.says("5 UP: with the PRICE of g in b one more (if it is not missing) WORTH is not less.");
        String[] texts = {"old", "new", "mid", "at 2", "plain", "sums", "root(old,new)", "least(old,root(old,new))", "back old", "link new"};
        for (String text : texts) {
            unbroken(three(), text, UP);
        }
        // Not less with a PRICE of 99, that becomes 100.
        YearBaskets dear = new YearBaskets();
        Due.prices(dear, 0, 1, 99);
        Due.prices(dear, 1, 99, 99);
        unbroken(dear, "sums", UP);
        // With GOOD 1 in YEAR 1 it would be 9 / 101, and was 4: but there it is missing.
        YearBaskets x = new YearBaskets();
        Due.prices(x, 0, 2, 99);
        Due.prices(x, 1, 8, 0);
        unbroken(x, "both sums", UP);
        unbroken(x, "both plain", UP);
    }

    /** link old from 0 to 2 is 9 times 11; from 0 to 2 GOOD 0 goes as told, GOOD 1 by 1. */
    private static YearBaskets rising(int first, int last) {
        YearBaskets x = new YearBaskets();
        Due.prices(x, 0, first, 11);
        Due.prices(x, 1, 9 * first, 1);
        Due.prices(x, 2, last, 11);
        x.bought(0, 0, 0, 1);
        x.bought(0, 1, 1, 1);
        return x;
    }

    /** link old from 0 to 2 is 1 / 9 times 1 / 11. */
    private static YearBaskets falling(int last) {
        YearBaskets x = new YearBaskets();
        Due.prices(x, 0, 99, 1);
        Due.prices(x, 1, 11, 11);
        Due.prices(x, 2, last, 1);
        x.bought(0, 0, 0, 1);
        x.bought(0, 1, 1, 1);
        return x;
    }

    private static void between() {
        DUE.says("6 BETWEEN: WORTH is not less than the least of PRICE in b / PRICE in a over GOODS that have both, not more than the greatest "
                + "(if there is one).");
        unbroken(rising(1, 99), "link old", BETWEEN);
        breachIs(rising(1, 98), "link old", BETWEEN, 0, 2, NONE);
        unbroken(falling(1), "link old", BETWEEN);
        breachIs(falling(2), "link old", BETWEEN, 0, 2, NONE);
        // A root, as it is: the root of 99 times 99 is not more than 99.
        unbroken(rising(1, 99), "link root(old,old)", BETWEEN);
        breachIs(rising(1, 98), "link root(old,old)", BETWEEN, 0, 2, NONE);
        unbroken(falling(1), "link root(old,old)", BETWEEN);
        breachIs(falling(2), "link root(old,old)", BETWEEN, 0, 2, NONE);
        for (int g = 2; g < 5; g++) {
            YearBaskets x = rising(1, 50);
            x.price(0, g, 1);
            x.price(2, g, 99);
            unbroken(x, "link old", BETWEEN);
            x.price(0, g, 0);
            breachIs(x, "link old", BETWEEN, 0, 2, NONE);
            x.price(0, g, 2);
            breachIs(x, "link old", BETWEEN, 0, 2, NONE);
            YearBaskets z = falling(2);
            z.price(0, g, 99);
            z.price(2, g, 1);
            unbroken(z, "link old", BETWEEN);
            z.price(2, g, 0);
            breachIs(z, "link old", BETWEEN, 0, 2, NONE);
        }
        for (String text : new String[] {"old", "new", "mid", "plain", "sums", "root(old,new)", "back plain", "least(old,new)"}) {
            unbroken(three(), text, BETWEEN);
        }
        betweenByOneGood();
        // From 0 to 2 there is no GOOD that has both: GOOD 0 is gone, GOOD 1 has come.
        YearBaskets x = new YearBaskets();
        Due.prices(x, 0, 1, 0);
        Due.prices(x, 1, 9, 1);
        Due.prices(x, 2, 0, 11);
        x.bought(0, 0, 0, 1);
        x.bought(0, 1, 1, 1);
        int n = Due.numberOf(x, "link old");
        due("link old from 0 to 2", x.worth(n, 0, 0, 2, 0), 99);
        due("no GOOD has both", x.keeps(n, 0, BETWEEN), 1);
    }

    /** link is 7 / 3, or 3 / 7; GOODS 0 and 1 go by 1, GOOD 2 by each small fraction. */
    private static void betweenByOneGood() {
        YearBaskets up = new YearBaskets();
        YearBaskets down = new YearBaskets();
        for (int y = 0; y < 3; y++) {
            Due.prices(up, y, y == 1 ? 7 : 3, 1);
            Due.prices(down, y, y == 1 ? 3 : 7, 1);
        }
        for (YearBaskets x : new YearBaskets[] {up, down}) {
            x.bought(0, 0, 0, 1);
            x.bought(0, 1, 1, 1);
            Due.numberOf(x, "link old");
        }
        for (int before = 1; before <= 8; before++) {
            up.price(0, 2, before);
            down.price(0, 2, before);
            for (int after = 1; after <= 8; after++) {
                up.price(2, 2, after);
                down.price(2, 2, after);
                due("7 / 3 with " + after + " / " + before, up.keeps(0, 0, BETWEEN), 3 * after >= 7 * before ? 1 : 0);
                due("3 / 7 with " + after + " / " + before, down.keeps(0, 0, BETWEEN), 7 * after <= 3 * before ? 1 : 0);
            }
        }
    }

    // ---- BREACH, CLASH, DRIFT

    private static void breach() {
        DUE.says("BREACH: the first (a, b, c or g) by which a NUMBER does not keep a LAW.");
        breachIs(three(), "link old", SAME, 0, 2, NONE);
        breachIs(three(), "link old", BACK, 0, 1, NONE);
        breachIs(three(), "link old", THIRD, 0, 2, 1);
        breachIs(three(), "sums", UNITS, 0, 1, 0);
        breachIs(three(), "link old", BETWEEN, 0, 2, NONE);
        unbroken(three(), "sums", BACK);
        // It is looked for anew when PRICES or baskets change.
        YearBaskets x = three();
        int n = Due.numberOf(x, "old");
        due("BACK: a", x.breach(n, 0, BACK, 0), 0);
        Due.prices(x, 0, 0, 0);
        due("BACK without YEAR 0: a", x.breach(n, 0, BACK, 0), 1);
        Due.basket(x, 0, 1, 1, 6);
        due("BACK with like baskets", x.breach(n, 0, BACK, 0), NONE);
        x.bought(0, 1, 0, 2);
        due("BACK again", x.breach(n, 0, BACK, 0), 1);
        // So for each LAW of the first NUMBER and of the last one, and for each WHO.
        YearBaskets z = new YearBaskets();
        for (int i = 0; i < 8; i++) {
            Due.numberOf(z, "link old");
        }
        for (int who = 0; who < 4; who++) {
            for (int law : new int[] {SAME, BACK, THIRD, BETWEEN}) {
                due("law " + law + " without PRICES for " + who, z.keeps(0, who, law) + z.keeps(7, who, law), 2);
            }
        }
        for (int y = 0; y < 3; y++) {
            Due.prices(z, y, y == 1 ? 10 : 1, y == 1 ? 1 : 10);
            for (int p = 0; p < 3; p++) {
                Due.basket(z, p, y, y == 1 ? 0 : 1, y == 1 ? 1 : 0);
            }
        }
        for (int who = 0; who < 4; who++) {
            for (int law : new int[] {SAME, BACK, THIRD, BETWEEN}) {
                due("law " + law + " with PRICES for " + who, z.keeps(0, who, law) + z.keeps(7, who, law), 0);
            }
        }
    }

    /** What is found for one NUMBER and WHO is not taken for another's, in whatever order they are asked. */
    private static void breachesApart() {
        YearBaskets x = Worlds.full();
        String[] texts = {"old", "sums", "link old", "at 0", "new", "link mid", "plain", "root(old,new)"};
        int[][][] alone = new int[8][4][7];
        for (int n = 0; n < 8; n++) {
            for (int who = 0; who < 4; who++) {
                YearBaskets one = Worlds.full();
                Due.numberOf(one, texts[n]);
                for (int law = 0; law < 7; law++) {
                    alone[n][who][law] = 100 * one.breach(0, who, law, 0) + 10 * one.breach(0, who, law, 1) + one.breach(0, who, law, 2);
                }
            }
            Due.numberOf(x, texts[n]);
        }
        for (int i = 0; i < 224; i++) {
            int n = i * 5 % 8;
            int who = (i / 8 * 3 + n) % 4;
            int law = i / 32;
            int where = alone[n][who][law];
            due(texts[n] + " for " + who + ", law " + law + ", kept", x.keeps(n, who, law), where == -111 ? 1 : 0);
        }
        YearBaskets z = Worlds.full();
        for (String text : texts) {
            Due.numberOf(z, text);
        }
        for (int n = 7; n >= 0; n--) {
            for (int who = 0; who < 4; who++) {
                for (int law : new int[] {BACK, THIRD, UNITS}) {
                    due(texts[n] + " for " + who + ", law " + law + ", c or g", z.breach(n, who, law, 2) - alone[n][who][law] % 10
                            - (alone[n][who][law] == -111 ? 0 : law == BACK ? -10 : 0), 0);
                }
            }
        }
    }

    /** Each NUMBER and WHO behind each other one, with all worked out anew. */
    private static void breachesBehindOthers() {
        String[] texts = {"old", "sums", "new", "plain", "at 0", "link old", "mean(old,sums)", "root(old,new)"};
        int[] alone = new int[32];
        for (int i = 0; i < 32; i++) {
            YearBaskets one = Worlds.full();
            Due.numberOf(one, texts[i / 4]);
            alone[i] = 100 * one.breach(0, i % 4, THIRD, 0) + 10 * one.breach(0, i % 4, THIRD, 1) + one.breach(0, i % 4, THIRD, 2);
        }
        for (int before = 0; before < 32; before++) {
            YearBaskets x = Worlds.full();
            for (String text : texts) {
                Due.numberOf(x, text);
            }
            for (int i = 0; i < 32; i++) {
                x.price(7, 4, x.price(7, 4, 1));
                x.keeps(before / 4, before % 4, BACK);
                due("THIRD of " + texts[i / 4] + " for " + i % 4 + " behind " + texts[before / 4] + " for " + before % 4 + ": c",
                        x.breach(i / 4, i % 4, THIRD, 2), alone[i] == -111 ? NONE : alone[i] % 10);
                due("b", x.breach(i / 4, i % 4, THIRD, 1), alone[i] == -111 ? NONE : alone[i] / 10 % 10);
            }
        }
    }

    private static void clashIs(YearBaskets x, int want, String... texts) {
        for (String text : texts) {
            Due.numberOf(x, text);
        }
        due("clash of " + String.join(", ", texts), x.clash(0), want);
    }

    private static void clash() {
        DUE.says("CLASH: the least SET of LAWS (fewest, then the least SET) that no NUMBER keeps all; NONE: one keeps all; "
                + "without NUMBERS the empty one.");
        clashIs(special(), 0);
        clashIs(special(), NONE, "at 1");
        // link root breaks 6 alone; old 1; both mid 2; both plain 1, 2; most(link old,old) 0, 1; link both root 0, 6;
        // back link old 1, 2, 6; both sums 2, 4; link both sums 0, 4, 6.
        clashIs(special(), 64, "link root(old,new)");
        clashIs(special(), 2, "old");
        clashIs(special(), 4, "both mid");
        clashIs(special(), 2, "both plain");
        clashIs(special(), 1, "most(link old,old)");
        clashIs(special(), 2, "most(link old,old)", "both plain");
        clashIs(special(), 4, "both plain", "both sums");
        clashIs(special(), 2 + 4, "old", "both sums");
        clashIs(special(), 1 + 2, "link both root(old,new)", "both plain");
        // Fewest comes ahead of the least SET: 6 alone is 64, 0 and 1 would be 3.
        clashIs(special(), 64, "link both root(old,new)", "back link old");
        clashIs(special(), 2 + 4 + 64, "old", "both mid", "link root(old,new)");
        clashIs(special(), 2 + 4 + 64, "old", "both mid", "link root(old,new)", "link both sums");
        clashIs(special(), NONE, "old", "both mid", "link root(old,new)", "at 1");
        clashIs(special(), 2, "old", "old", "old", "old", "old", "old", "old", "new");
        clashIs(special(), 2 + 4, "old", "old", "old", "old", "old", "old", "old", "both mid");
        clashIs(special(), NONE, "old", "old", "old", "old", "old", "old", "old", "at 0");
        YearBaskets nothing = new YearBaskets();
        clashIs(nothing, NONE, "old");
    }

    private static void driftIs(YearBaskets x, String text, int a, int b, long upper, long lower) {
        int n = Due.numberOf(x, text);
        due("drift of " + text + " from " + a + " to " + b + ": upper", x.drift(n, 0, a, b, 0), upper);
        due("drift of " + text + " from " + a + " to " + b + ": lower", x.drift(n, 0, a, b, 1), lower);
    }

    private static void drift() {
        DUE.says("DRIFT of a NUMBER from a to b: link of it, by itself (both worked out in this order; then, if one is a root: NOT).");
        driftIs(three(), "old", 0, 2, 92, 65);
        driftIs(three(), "old", 2, 0, 22, 25);
        driftIs(three(), "old", 0, 1, 1, 1);
        driftIs(three(), "old", 1, 1, 1, 1);
        driftIs(three(), "link old", 0, 2, 1, 1);
        driftIs(three(), "sums", 0, 2, 1, 1);
        // link is LARGE ahead of itself, that is NOT: 0 to 6; NOT ahead of itself, that is LARGE: 0 to 5.
        YearBaskets x = Worlds.chain(1009, 13, 1009, 13, 1009, 13, 1009, 13, 1009, 13);
        driftIs(x, "old", 0, 6, LARGE, LARGE);
        due("old from 0 to 6 is NOT", x.worth(0, 0, 0, 6, 0), NOT);
        driftIs(x, "most(link old,at 7)", 0, 5, NOT, NOT);
        due("most(link old,at 7) from 0 to 5 is LARGE", x.worth(1, 0, 0, 5, 0), LARGE);
        driftIs(x, "link old", 0, 5, LARGE, LARGE);
        driftIs(three(), "back back back back back back mean(old,old)", 0, 2, 92, 65);
        driftIs(three(), "both both both both both both link old", 0, 2, 1, 1);
        driftIs(three(), "link link link link link link most(old,old)", 0, 2, 1, 1);
        driftIs(three(), "back back back back back back back old", 0, 2, 25, 22);
        rootsInDrift();
    }

    private static void rootsInDrift() {
        driftIs(three(), "root(old,new)", 0, 2, NOT, NOT);
        driftIs(three(), "root(old,new)", 0, 1, NOT, NOT);
        driftIs(three(), "root(old,new)", 0, 0, NOT, NOT);
        // Each step is a root of 4, from 0 to 2 it is 3; then each step is 2, from 0 to 2 a root.
        String text = "least(old,root(at7,at7))";
        YearBaskets steps = Worlds.chain(3, 1, 3, 1);
        Due.prices(steps, 2, 5, 1);
        bySteps(steps, 1, 2, 4);
        driftIs(steps, text, 0, 2, NOT, NOT);
        due("link of it is a root", steps.worth(Due.numberOf(steps, "link " + text), 0, 0, 2, 2), 1);
        due("it is none itself", steps.worth(0, 0, 0, 2, 2), 0);
        YearBaskets itself = Worlds.chain(2, 1, 2, 1);
        Due.prices(itself, 2, 19, 1);
        bySteps(itself, 1, 3, 9);
        driftIs(itself, text, 0, 2, NOT, NOT);
        due("link of it is none", itself.worth(Due.numberOf(itself, "link " + text), 0, 0, 2, 2), 0);
        due("it is a root itself", itself.worth(0, 0, 0, 2, 2), 1);
        // link is a root of one GOOD's PRICES, itself is LARGE by all five; with fewer of them it is not.
        YearBaskets x = new YearBaskets();
        Due.prices(x, 0, 97, 89, 83, 79, 73);
        Due.prices(x, 1, 2, 0, 0, 0, 0);
        Due.prices(x, 2, 61, 67, 71, 59, 53);
        driftIs(x, "root(both plain,both plain)", 0, 2, LARGE, LARGE);
        due("link of it is not", x.worth(Due.numberOf(x, "link root(both plain,both plain)"), 0, 0, 2, 2), 1);
        for (int g = 2; g < 5; g++) {
            x.price(0, g, 0);
        }
        due("drift, itself not LARGE", x.drift(0, 0, 0, 2, 0), NOT);
    }

    /** at 7 goes from YEAR to YEAR by these PRICES of GOOD 4. */
    private static void bySteps(YearBaskets x, int... prices) {
        for (int y = 0; y < prices.length; y++) {
            x.price(y, 4, prices[y]);
        }
        x.bought(0, 7, 4, 1);
    }

    // ---- promises 12 to 15

    private static void promise12() {
        DUE.says("Whether a NUMBER keeps a LAW: 1, 0. UNKNOWN.");
        YearBaskets x = three();
        for (int n = 0; n < 8; n++) {
            due("keeps(" + n + ", ..) ahead of it", x.keeps(n, 0, 0), UNKNOWN);
            Due.numberOf(x, n == 0 ? "old" : "sums");
        }
        due("not kept", x.keeps(0, 0, BACK), 0);
        due("kept", x.keeps(7, 0, BACK), 1);
        DUE.edges("keeps(n, ..)", 0, 7, UNKNOWN, n -> x.keeps(n, 0, BACK));
        DUE.edges("keeps(.., who, ..)", 0, 3, UNKNOWN, who -> x.keeps(0, who, BACK));
        DUE.edges("keeps(.., law)", 0, 6, UNKNOWN, law -> x.keeps(7, 3, law));
    }

    private static void promise13() {
        DUE.says("BREACH: what = 0 a, 1 b, 2 c or g (NONE: the LAW has none); NONE: it is kept. UNKNOWN, OUTSIDE.");
        YearBaskets x = three();
        Due.numberOf(x, "link old");
        due("a", x.breach(0, 0, THIRD, 0), 0);
        due("b", x.breach(0, 0, THIRD, 1), 2);
        due("c", x.breach(0, 0, THIRD, 2), 1);
        for (int law : new int[] {SAME, BACK, BETWEEN}) {
            due("law " + law + " has no c or g", x.breach(0, 0, law, 2), NONE);
            due("law " + law + " is broken", x.breach(0, 0, law, 0), 0);
        }
        for (int what = 0; what < 3; what++) {
            for (int law : new int[] {TWICE, UNITS, UP}) {
                due("law " + law + " is kept", x.breach(0, 0, law, what), NONE);
            }
        }
        DUE.edges("breach(.., what) of what is broken", 0, 2, OUTSIDE, what -> x.breach(0, 0, SAME, what));
        DUE.edges("breach(.., what) of what is kept", 0, 2, OUTSIDE, what -> x.breach(0, 0, UP, what));
        DUE.edges("breach(n, ..)", 0, 0, UNKNOWN, n -> x.breach(n, 0, SAME, 0));
        DUE.edges("breach(.., law, ..)", 0, 6, UNKNOWN, law -> x.breach(0, 0, law, 2));
        due("UNKNOWN who ahead of OUTSIDE", x.breach(0, 4, SAME, 3), UNKNOWN);
        due("UNKNOWN law ahead of OUTSIDE", x.breach(0, 0, 7, 3), UNKNOWN);
    }

    private static void promise14() {
        DUE.says("CLASH. UNKNOWN.");
        YearBaskets x = three();
        DUE.edges("clash(who) without NUMBERS", 0, 3, UNKNOWN, x::clash);
        due("without NUMBERS", x.clash(3), 0);
        Due.numberOf(x, "old");
        due("for PERSON 0", x.clash(0), 2);
        due("for PERSON 1, for whom all is NOT", x.clash(1), NONE);
        due("for all together", x.clash(3), 2);
        x.bought(2, 0, 0, 9);
        x.bought(2, 1, 1, 9);
        due("for PERSON 2", x.clash(2), 2);
        DUE.edges("clash(who)", 0, 3, UNKNOWN, x::clash);
    }

    private static void promise15() {
        DUE.says("DRIFT: what = 0 the upper, 1 the lower number. UNKNOWN, OUTSIDE, NOT (a root, or WORTH by itself is 0, too), LARGE (the quotient, too).");
        YearBaskets x = three();
        Due.numberOf(x, "old");
        Due.numberOf(x, "root(old,new)");
        due("upper", x.drift(0, 0, 0, 2, 0), 92);
        due("lower", x.drift(0, 0, 0, 2, 1), 65);
        DUE.edges("drift(.., what)", 0, 1, OUTSIDE, what -> x.drift(0, 0, 0, 2, what));
        DUE.edges("drift(n, ..)", 0, 1, UNKNOWN, n -> x.drift(n, 0, 0, 2, 0));
        due("NOT: a root", x.drift(1, 0, 0, 2, 0), NOT);
        due("NOT: a root, the lower number", x.drift(1, 0, 0, 2, 1), NOT);
        due("NOT: HOLED", x.drift(0, 0, 0, 3, 0), NOT);
        due("NOT: nothing BOUGHT, no step", x.drift(0, 1, 0, 0, 0), NOT);
        due("OUTSIDE ahead of NOT", x.drift(1, 0, 0, 2, 2), OUTSIDE);
        due("UNKNOWN ahead of OUTSIDE", x.drift(2, 0, 0, 2, 2), UNKNOWN);
        // link is 1009 to the 4 by 13 to the 4, itself has 997 below: the quotient alone is LARGE.
        YearBaskets four = Worlds.chain(997, 997, 1009, 13, 1009, 13, 1009, 13, 1009, 13);
        int old = Due.numberOf(four, "old");
        due("itself", four.worth(old, 0, 0, 5, 1), 997);
        due("link", four.worth(Due.numberOf(four, "link old"), 0, 0, 5, 0), 1009L * 1009 * 1009 * 1009);
        due("LARGE: the quotient", four.drift(old, 0, 0, 5, 0), LARGE);
        due("LARGE: the quotient, the lower number", four.drift(old, 0, 0, 5, 1), LARGE);
        YearBaskets two = Worlds.chain(997, 997, 1009, 13, 1009, 13);
        int same = Due.numberOf(two, "old");
        long itself = two.worth(same, 0, 0, 3, 0);
        due("not LARGE: upper times lower", two.drift(same, 0, 0, 3, 0) * 169 * itself, 1009L * 1009 * 997 * two.drift(same, 0, 0, 3, 1));
    }

    public static void main(String[] args) {
        forAllYears();
        thirdsInOrder();
        thirdsByTheLeastYear();
        unitsInOrder();
        passedOver();
        alikeByOrder();
        same();
        backLaw();
        third();
        twice();
        units();
        up();
        between();
        breach();
        breachesApart();
        breachesBehindOthers();
        clash();
        drift();
        promise12();
        promise13();
        promise14();
        promise15();
        DUE.end("EdgesOfLawsTest");
    }
}
