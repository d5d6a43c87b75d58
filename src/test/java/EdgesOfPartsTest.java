import java.math.BigInteger;

/** Sentence by sentence: PART, WAGE, TURN, and promises 19 to 22. */
public final class EdgesOfPartsTest {
    private static final int NONE = YearBaskets.NONE, UNKNOWN = YearBaskets.UNKNOWN, OUTSIDE = YearBaskets.OUTSIDE;
    private static final int NOT = YearBaskets.NOT, LARGE = YearBaskets.LARGE;
    private static final Due DUE = new Due();

    private static void due(String call, long got, long want) {
        DUE.due(call, got, want);
    }

    // ---- PART

    private static void partIs(YearBaskets x, int who, int g, int a, int b, int upper, int lower) {
        String call = "part of " + g + " from " + a + " to " + b + " for " + who;
        due(call + ": upper", x.part(who, g, a, b, 0), upper);
        due(call + ": lower", x.part(who, g, a, b, 1), lower);
    }

    private static void parts() {
        DUE.says("PART of a GOOD from a to b: (PRICE in b less PRICE in a) times BOUGHT in a / COST (a, a). (0 by 1, if it was not BOUGHT.)");
        YearBaskets x = Worlds.two();
        Due.prices(x, 0, 2, 3, 99, 1, 50);
        Due.prices(x, 1, 4, 3, 1, 99, 0);
        Due.basket(x, 1, 0, 0, 0, 0, 9, 0);
        Due.basket(x, 2, 0, 0, 0, 9, 0, 0);
        partIs(x, 0, 0, 0, 1, 10, 13);
        partIs(x, 0, 1, 0, 1, 0, 1);
        partIs(x, 0, 0, 1, 0, -1, 5);
        partIs(x, 0, 0, 0, 0, 0, 1);
        partIs(x, 0, 2, 0, 1, 0, 1);
        partIs(x, 0, 4, 0, 1, 0, 1);
        partIs(x, 0, 4, 0, 7, 0, 1);
        partIs(x, 1, 3, 0, 1, 98, 1);
        partIs(x, 2, 2, 0, 1, -98, 99);
        partIs(x, 3, 3, 0, 1, 98 * 9, 13 + 9 + 9 * 99);
        partIs(x, 3, 2, 0, 1, -98 * 9, 13 + 9 + 9 * 99);
        // COST (a, a) may be 1.
        YearBaskets one = new YearBaskets();
        one.price(0, 0, 1);
        one.price(1, 0, 99);
        one.bought(0, 0, 0, 1);
        partIs(one, 0, 0, 0, 1, 98, 1);
        partIs(one, 0, 1, 0, 1, 0, 1);
        // The greatest and the least upper number: 27 of a GOOD, from 1 to 99 and back.
        YearBaskets all = new YearBaskets();
        Due.prices(all, 0, 1, 98, 1);
        Due.prices(all, 1, 99, 1, 1);
        for (int p = 0; p < 3; p++) {
            Due.basket(all, p, 0, 9, 0, 0);
            Due.basket(all, p, 1, 0, 9, 0);
        }
        all.bought(0, 0, 2, 2);
        all.bought(0, 1, 2, 2);
        partIs(all, 3, 0, 0, 1, 98 * 27, 29);
        partIs(all, 3, 1, 1, 0, 97 * 27, 29);
    }

    private static void promise19() {
        DUE.says("PART: what = 0 the upper, 1 the lower number. UNKNOWN, OUTSIDE, NOT: one of both PRICES is missing (and it was BOUGHT), "
                + "or COST (a, a) is HOLED or 0. (The upper one may be as a refusal is.)");
        YearBaskets x = Worlds.two();
        partIs(x, 0, 0, 0, 1, 10, 13);
        DUE.edges("part(.., what)", 0, 1, OUTSIDE, what -> x.part(0, 0, 0, 1, what));
        DUE.edges("part(who, ..)", 0, 3, UNKNOWN, who -> x.part(who, 0, 0, 1, 0));
        DUE.edges("part(.., g, ..)", 0, 4, UNKNOWN, g -> x.part(0, g, 0, 1, 0));
        partIs(x, 0, 0, 0, 2, NOT, NOT);
        partIs(x, 0, 2, 0, 2, 0, 1);
        partIs(x, 1, 0, 0, 1, NOT, NOT);
        partIs(x, 1, 2, 0, 1, NOT, NOT);
        partIs(x, 0, 0, 2, 0, NOT, NOT);
        x.price(1, 1, 0);
        partIs(x, 0, 1, 0, 1, NOT, NOT);
        partIs(x, 0, 0, 0, 1, 10, 13);
        partIs(x, 0, 0, 1, 0, NOT, NOT);
        x.price(1, 1, 3);
        x.bought(0, 0, 2, 1);
        partIs(x, 0, 0, 0, 1, NOT, NOT);
        partIs(x, 0, 2, 0, 1, NOT, NOT);
        partIs(x, 0, 4, 0, 1, NOT, NOT);
        x.price(0, 2, 1);
        partIs(x, 0, 0, 0, 1, 5, 7);
        partIs(x, 0, 2, 0, 1, NOT, NOT);
        due("UNKNOWN ahead of OUTSIDE", x.part(0, 5, 0, 1, 2), UNKNOWN);
        due("OUTSIDE ahead of NOT", x.part(0, 2, 0, 1, 2), OUTSIDE);
        // 91 times 11, 59 times 17, 67 times 15, and 1 time 1: as UNKNOWN, NOT, LARGE, NONE.
        int[][] falls = {{92, 11, UNKNOWN}, {60, 17, NOT}, {68, 15, LARGE}, {2, 1, NONE}};
        for (int[] fall : falls) {
            YearBaskets z = new YearBaskets();
            Due.prices(z, 0, fall[0], 1);
            Due.prices(z, 1, 1, 1);
            int rest = fall[1];
            for (int p = 0; p < 3; p++) {
                z.bought(p, 0, 0, Math.min(9, rest));
                rest -= Math.min(9, rest);
            }
            z.bought(0, 0, 1, 1);
            partIs(z, 3, 0, 0, 1, fall[2], fall[0] * fall[1] + 1);
        }
    }

    // ---- WAGE

    private static long wageOf(YearBaskets x, String text, int w, int a, int y) {
        return x.wage(Due.numberOf(x, text), 0, w, a, y);
    }

    private static void wages() {
        DUE.says("WAGE of w (1 .. 99999) in a, led along a NUMBER to y: w times WORTH, cut (of a root: the greatest whole number "
                + "whose square is not above w times w times that).");
        YearBaskets x = Worlds.two();
        String[] texts = {"old", "root(old,old)", "root(old,new)", "plain"};
        for (String text : texts) {
            Due.numberOf(x, text);
        }
        for (int w : new int[] {1, 2, 12, 13, 14, 25, 26, 27, 12999, 13000, 99998, 99999}) {
            due("wage of " + w + " by 23 / 13", x.wage(0, 0, w, 0, 1), w * 23L / 13);
            due("wage of " + w + " by the root of it, squared", x.wage(1, 0, w, 0, 1), w * 23L / 13);
            BigInteger below = BigInteger.valueOf(w).pow(2).multiply(BigInteger.valueOf(115)).divide(BigInteger.valueOf(52));
            due("wage of " + w + " by the root of 115 / 52", x.wage(2, 0, w, 0, 1), below.sqrt().longValueExact());
            due("wage of " + w + " back, by 13 / 20 and so on", x.wage(0, 0, w, 1, 0), w * 4L / 5);
            due("wage of " + w + " back by the root of 16 / 25", x.wage(1, 0, w, 1, 0), w * 4L / 5);
            due("wage of " + w + " in the same YEAR", x.wage(0, 0, w, 1, 1), w);
            due("wage of " + w + " by a root in the same YEAR", x.wage(2, 0, w, 1, 1), w);
        }
        DUE.edges("wage(.., w, ..)", 1, 99999, OUTSIDE, w -> x.wage(3, 0, w, 0, 1));
        // Less than 1, and 0 by a root.
        YearBaskets down = Worlds.chain(1, 99, 1, 99, 1, 99, 1, 99);
        due("99 by 1 / 99", wageOf(down, "link old", 99, 0, 1), 1);
        due("98 by 1 / 99", wageOf(down, "link old", 98, 0, 1), 0);
        due("9801 by the root of 1 / 99 times 99", wageOf(down, "link root(old,old)", 9801, 0, 2), 1);
        due("9800 by it", wageOf(down, "link root(old,old)", 9800, 0, 2), 0);
        due("99999 by far less", wageOf(down, "link root(old,old)", 99999, 0, 3), 0);
    }

    private static YearBaskets tenToThe12() {
        YearBaskets x = Worlds.chain(100, 3, 100, 3, 100, 3, 100, 3, 100, 3, 100, 3);
        x.price(0, 4, 1);
        x.price(6, 4, 1);
        x.bought(0, 7, 4, 1);
        return x;
    }

    private static void promise20() {
        DUE.says("WAGE. UNKNOWN, OUTSIDE, NOT, LARGE (also w times, or w times w times the upper number above 10 to the 18).");
        YearBaskets x = Worlds.tenToThe15();
        int n = Due.numberOf(x, "link old");
        due("1000 times 10 to the 15", x.wage(n, 0, 1000, 0, 7), 1000000000000000000L / 2187);
        due("1001 times that", x.wage(n, 0, 1001, 0, 7), LARGE);
        due("99999 times that", x.wage(n, 0, 99999, 0, 7), LARGE);
        due("999 times that", x.wage(n, 0, 999, 0, 7), 999000000000000000L / 2187);
        YearBaskets z = tenToThe12();
        int root = Due.numberOf(z, "root(link old,at 7)");
        due("1000 times 1000 times 10 to the 12", z.wage(root, 0, 1000, 0, 6), 1000000000 / 27);
        due("1001 times 1001 times that", z.wage(root, 0, 1001, 0, 6), LARGE);
        due("99999 by a root", z.wage(root, 0, 99999, 0, 6), LARGE);
        YearBaskets ten = Worlds.chain(10, 1, 10, 1, 10, 1, 10, 1, 10, 1);
        due("the greatest by a root", wageOf(ten, "link root(old,old)", 10000, 0, 5), 1000000000);
        due("one more", wageOf(ten, "link root(old,old)", 10001, 0, 5), LARGE);
        due("one less", wageOf(ten, "link root(old,old)", 9999, 0, 5), 999900000);
        int share = Due.numberOf(z, "link old");
        due("99999 times 10 to the 12: w once, as it is no root", z.wage(share, 0, 99999, 0, 6), 99999000000000000L / 729);
        due("WORTH itself is LARGE", wageOf(Worlds.chain(160, 3, 160, 3, 160, 3, 160, 3, 160, 3, 160, 3, 160, 3), "link old", 1, 0, 7), LARGE);
        int not = Due.numberOf(z, "at 6");
        due("NOT", z.wage(not, 0, 1, 0, 1), NOT);
        due("OUTSIDE ahead of NOT", z.wage(not, 0, 0, 0, 1), OUTSIDE);
        due("OUTSIDE ahead of LARGE", z.wage(root, 0, 100000, 0, 6), OUTSIDE);
        due("UNKNOWN ahead of OUTSIDE", z.wage(3, 0, 0, 0, 1), UNKNOWN);
        DUE.edges("wage(n, ..)", 0, 2, UNKNOWN, one -> z.wage(one, 0, 9, 0, 1));
        DUE.edges("wage(.., who, ..)", 0, 3, UNKNOWN, who -> z.wage(share, who, 9, 0, 1));
        DUE.edges("wage(.., a, ..)", 0, 7, UNKNOWN, a -> z.wage(share, 0, 9, a, 1));
        DUE.edges("wage(.., y)", 0, 7, UNKNOWN, y -> z.wage(share, 0, 9, 0, y));
    }

    // ---- dearest

    /** GOOD 0 doubles, GOOD 1 stays, GOOD 2 is half: PERSONS BOUGHT as many as told. */
    private static YearBaskets threePersons(int[]... baskets) {
        YearBaskets x = new YearBaskets();
        Due.prices(x, 0, 2, 2, 2);
        Due.prices(x, 1, 4, 2, 1);
        for (int p = 0; p < 3; p++) {
            Due.basket(x, p, 0, baskets[p]);
        }
        Due.numberOf(x, "old");
        return x;
    }

    private static int[] row(int... amounts) {
        return amounts;
    }

    private static void promise21() {
        DUE.says("The PERSON for whom a NUMBER's WORTH from a to b is the greatest (of like ones the least; those for whom it is NOT or LARGE "
                + "are left out, and one whose ORDER to the greatest so far is LARGE); NONE. UNKNOWN.");
        due("the first", threePersons(row(1, 0, 0), row(0, 1, 0), row(0, 0, 1)).dearest(0, 0, 1), 0);
        due("the second", threePersons(row(0, 0, 1), row(1, 0, 0), row(0, 1, 0)).dearest(0, 0, 1), 1);
        due("the last", threePersons(row(0, 0, 1), row(0, 1, 0), row(1, 0, 0)).dearest(0, 0, 1), 2);
        due("all alike", threePersons(row(1, 0, 0), row(2, 0, 0), row(9, 0, 0)).dearest(0, 0, 1), 0);
        due("of two alike the least", threePersons(row(0, 0, 1), row(2, 0, 0), row(9, 0, 0)).dearest(0, 0, 1), 1);
        due("the first NOT", threePersons(row(0, 0, 0), row(0, 0, 1), row(0, 1, 0)).dearest(0, 0, 1), 2);
        due("the second NOT", threePersons(row(0, 0, 1), row(0, 0, 0), row(0, 1, 0)).dearest(0, 0, 1), 2);
        due("the last NOT", threePersons(row(0, 0, 1), row(0, 1, 0), row(0, 0, 0)).dearest(0, 0, 1), 1);
        due("the first two NOT", threePersons(row(0, 0, 0), row(0, 0, 0), row(0, 0, 1)).dearest(0, 0, 1), 2);
        due("the last two NOT", threePersons(row(0, 0, 1), row(0, 0, 0), row(0, 0, 0)).dearest(0, 0, 1), 0);
        due("NONE: all NOT", threePersons(row(0, 0, 0), row(0, 0, 0), row(0, 0, 0)).dearest(0, 0, 1), NONE);
        YearBaskets x = threePersons(row(1, 0, 0), row(0, 1, 0), row(0, 0, 1));
        due("NONE: no PRICES", x.dearest(0, 0, 7), NONE);
        due("back again it is the last", x.dearest(Due.numberOf(x, "at 0"), 1, 0), 2);
        due("in the same YEAR all are alike", x.dearest(0, 0, 0), 0);
        DUE.edges("dearest(n, ..)", 0, 1, UNKNOWN, n -> x.dearest(n, 0, 1));
        DUE.edges("dearest(0, a, 1)", 0, 7, UNKNOWN, a -> x.dearest(0, a, 1));
        DUE.edges("dearest(0, 0, b)", 0, 7, UNKNOWN, b -> x.dearest(0, 0, b));
        dearestWithLarge();
        dearestByRoots();
        dearestByLargeOrders();
    }

    private static void dearestWithLarge() {
        YearBaskets x = Worlds.chain(1009, 13, 1009, 13, 1009, 13, 1009, 13, 1009, 13);
        for (int y = 0; y < 8; y++) {
            x.price(y, 4, 1);
            x.bought(1, y, 4, 1);
        }
        int n = Due.numberOf(x, "link old");
        due("by four steps the first", x.dearest(n, 0, 4), 0);
        due("by five steps it is LARGE for him, and left out", x.dearest(n, 0, 5), 1);
        Due.basket(x, 1, 2, 0, 0, 0, 0, 0);
        due("the other one NOT, too", x.dearest(n, 0, 5), NONE);
    }

    private static void dearestByRoots() {
        // A fraction for PERSON 0, a root as much for PERSON 1, more for PERSON 2.
        YearBaskets x = new YearBaskets();
        Due.prices(x, 0, 1, 1, 1);
        Due.prices(x, 1, 3, 4, 5);
        for (int p = 0; p < 3; p++) {
            x.bought(p, 7, 1, 1);
        }
        Due.basket(x, 0, 0, 0, 1, 0);
        Due.basket(x, 1, 0, 0, 1, 0);
        int n = Due.numberOf(x, "most(old,root(at7,at7))");
        due("a fraction and a root alike", x.dearest(n, 0, 1), 0);
        Due.basket(x, 1, 0, 1, 0, 0);
        due("a fraction, and the root for the next one alike", x.dearest(n, 0, 1), 0);
        Due.basket(x, 0, 0, 1, 0, 0);
        Due.basket(x, 0, 7, 1, 0, 0);
        due("the root for the next one is more", x.dearest(n, 0, 1), 1);
        Due.basket(x, 2, 0, 0, 0, 1);
        due("the fraction for the last one is more", x.dearest(n, 0, 1), 2);
    }

    private static void dearestByLargeOrders() {
        // A fraction of 1009 to the 4 for PERSON 0, less than the root for PERSON 1; they have no ORDER.
        YearBaskets x = Worlds.chain(1009, 500, 1009, 500, 1009, 500, 1009, 500);
        for (int y = 0; y < 5; y++) {
            x.price(y, 4, new int[] {1, 3, 9, 27, 81}[y]);
            x.bought(1, y, 4, 1);
        }
        x.bought(0, 7, 4, 1);
        x.bought(1, 7, 4, 1);
        int n = Due.numberOf(x, "link least(root(at7,at7),old)");
        due("one step: a fraction", x.worth(n, 0, 0, 1, 2), 0);
        due("one step: the root is more", x.dearest(n, 0, 1), 1);
        due("two steps: it is more, too", x.dearest(n, 0, 2), 1);
        due("four steps: its ORDER to the greatest so far is LARGE", x.dearest(n, 0, 4), 0);
        due("for the other one alone it is not", x.worth(n, 1, 0, 4, 0), 6561);
        // A root of 1 for PERSONS 0 and 2, a fraction of 1009 to the 4 for PERSON 1.
        YearBaskets z = new YearBaskets();
        YearBaskets steps = Worlds.chain(1009, 13, 1009, 13, 1009, 13, 1009, 13);
        for (int y = 0; y < 5; y++) {
            for (int g = 0; g < 4; g++) {
                z.price(y, g, steps.price(y, g, 0));
                z.bought(1, y, g, steps.bought(0, y, g, 0));
            }
            z.price(y, 4, 1);
            z.bought(0, y, 4, 1);
            z.bought(2, y, 4, 1);
        }
        for (int p = 0; p < 3; p++) {
            z.bought(p, 7, 4, 1);
        }
        int m = Due.numberOf(z, "link most(root(at7,at7),old)");
        due("one step: the fraction is more", z.dearest(m, 0, 1), 1);
        due("four steps: it is left out", z.dearest(m, 0, 4), 0);
        z.bought(0, 7, 4, 0);
        due("without PERSON 0 it is the greatest so far, and PERSON 2 is left out", z.dearest(m, 0, 4), 1);
    }

    // ---- TURN

    private static void turns() {
        DUE.says("TURN: the least PRICE (1 .. 99) of a GOOD in a YEAR (in the place of what it is) by which WORTH from a to b is u / l or more.");
        YearBaskets x = Worlds.two();
        for (String text : new String[] {"old", "root(old,old)", "plain", "sums", "new"}) {
            Due.numberOf(x, text);
        }
        // old is (5 v + 3) / 13 by the PRICE v of GOOD 0 in YEAR 1.
        due("8 / 13: the PRICE 1", x.turn(0, 0, 0, 1, 1, 0, 8, 13), 1);
        due("more than 8 / 13: the PRICE 2", x.turn(0, 0, 0, 1, 1, 0, 81, 131), 2);
        due("23 / 13: the PRICE that it has", x.turn(0, 0, 0, 1, 1, 0, 23, 13), 4);
        due("24 / 13: one more", x.turn(0, 0, 0, 1, 1, 0, 24, 13), 5);
        due("28 / 13", x.turn(0, 0, 0, 1, 1, 0, 28, 13), 5);
        due("498 / 13: the PRICE 99", x.turn(0, 0, 0, 1, 1, 0, 498, 13), 99);
        due("499 / 13: none", x.turn(0, 0, 0, 1, 1, 0, 499, 13), NONE);
        due("as little as can be", x.turn(0, 0, 0, 1, 1, 0, 1, 9999), 1);
        due("as much as can be", x.turn(0, 0, 0, 1, 1, 0, 9999, 1), NONE);
        // A root as it is: the root of it times itself.
        due("by a root: 23 / 13", x.turn(1, 0, 0, 1, 1, 0, 23, 13), 4);
        due("by a root: 24 / 13", x.turn(1, 0, 0, 1, 1, 0, 24, 13), 5);
        due("by a root: 9999", x.turn(1, 0, 0, 1, 1, 0, 9999, 1), NONE);
        due("by a root: 1 / 9999", x.turn(1, 0, 0, 1, 1, 0, 1, 9999), 1);
        // In YEAR a, (20 + 3) / (5 v + 3); in another YEAR, whatever it is.
        due("in a: 23 / 8", x.turn(0, 0, 0, 1, 0, 0, 23, 8), 1);
        due("in a: 24 / 8", x.turn(0, 0, 0, 1, 0, 0, 24, 8), NONE);
        due("in a YEAR that does not matter", x.turn(0, 0, 0, 1, 2, 0, 23, 13), 1);
        due("in a YEAR that does not matter, more", x.turn(0, 0, 0, 1, 2, 0, 24, 13), NONE);
        due("from a YEAR to itself: 1", x.turn(0, 0, 0, 0, 0, 0, 1, 1), 1);
        due("from a YEAR to itself: more", x.turn(0, 0, 0, 0, 0, 0, 9999, 9998), NONE);
        // A GOOD that is missing gets a PRICE: sums (v + 7) / 5 is not told, as in a it is missing.
        due("sums by a GOOD that there is not", x.turn(3, 0, 0, 1, 1, 2, 1, 1), NONE);
        x.price(0, 2, 1);
        due("sums by it, missing in b alone", x.turn(3, 0, 0, 1, 1, 2, 2, 1), 5);
        due("plain by it: (3 + v) / 3", x.turn(2, 0, 0, 1, 1, 2, 2, 1), 3);
        x.bought(0, 0, 2, 1);
        due("old by it: (23 + v) / 14", x.turn(0, 0, 0, 1, 1, 2, 2, 1), 5);
        due("what it is, behind all this", x.price(1, 2, 7), 0);
        due("what it was is of no matter", x.turn(0, 0, 0, 1, 1, 2, 2, 1), 5);
        due("the last GOOD in the last YEAR", x.turn(0, 0, 0, 1, 7, 4, 1, 1), 1);
        x.bought(0, 0, 4, 1);
        due("BOUGHT, but there is no such GOOD yet", x.worth(0, 0, 0, 1, 0), 15);
        due("with any PRICE of it old is HOLED", x.turn(0, 0, 0, 1, 7, 4, 1, 1), NONE);
    }

    private static void promise22() {
        DUE.says("TURN: PRICE of g in y; NONE: there is none such. UNKNOWN, OUTSIDE (u, l 1 .. 9999). "
                + "(A PRICE by which WORTH is NOT or LARGE, or its ORDER is, does not turn it.)");
        YearBaskets x = Worlds.two();
        int n = Due.numberOf(x, "old");
        DUE.edges("turn(n, ..)", 0, 0, UNKNOWN, one -> x.turn(one, 0, 0, 1, 1, 0, 1, 1));
        DUE.edges("turn(.., who, ..)", 0, 3, UNKNOWN, who -> x.turn(n, who, 0, 1, 1, 0, 1, 1));
        for (int v : new int[] {1, 2, 9998, 9999}) {
            due("u " + v + ", l " + v, x.turn(n, 0, 0, 1, 1, 0, v, v), 2);
        }
        for (int v : new int[] {0, -1, 10000, Integer.MIN_VALUE, Integer.MAX_VALUE}) {
            due("u " + v, x.turn(n, 0, 0, 1, 1, 0, v, 1), OUTSIDE);
            due("l " + v, x.turn(n, 0, 0, 1, 1, 0, 1, v), OUTSIDE);
        }
        due("NONE: NOT by each PRICE", x.turn(n, 1, 0, 1, 1, 0, 1, 1), NONE);
        due("UNKNOWN ahead of OUTSIDE", x.turn(n, 0, 0, 1, 1, 5, 0, 1), UNKNOWN);
        turnsByWhatIsNot();
        turnsByWhatIsLarge();
    }

    /** By the PRICE 3 of GOOD 4 in YEAR 1 both steps are fractions, by each other one is a root. */
    private static void turnsByWhatIsNot() {
        YearBaskets x = Worlds.chain(3, 1, 2, 1);
        x.price(0, 4, 1);
        x.price(2, 4, 6);
        x.bought(0, 7, 4, 1);
        int n = Due.numberOf(x, "link least(old,root(at7,at7))");
        due("1, 2 are passed over", x.turn(n, 0, 0, 2, 1, 4, 1, 1), 3);
        due("3 does it", x.turn(n, 0, 0, 2, 1, 4, 6, 1), 3);
        due("none does", x.turn(n, 0, 0, 2, 1, 4, 61, 10), NONE);
    }

    /** The last step is (v + 198) / 3: times 8 times 10 to the 12 it is LARGE, but where 3 divides it. */
    private static void turnsByWhatIsLarge() {
        YearBaskets x = Worlds.chain(160, 3, 160, 3, 160, 3, 125, 3, 125, 3, 125, 3);
        Due.prices(x, 6, 1, 1);
        Due.prices(x, 7, 0, 99);
        Due.basket(x, 0, 6, 1, 2);
        int n = Due.numberOf(x, "link old");
        due("1, 2 are passed over", x.turn(n, 0, 0, 7, 7, 0, 1, 1), 3);
        x.price(7, 0, 1);
        due("by the PRICE 1", x.worth(n, 0, 0, 7, 0), LARGE);
        x.price(7, 0, 3);
        due("by the PRICE 3", x.worth(n, 0, 0, 7, 0), 8000000000000L * 67);
    }

    public static void main(String[] args) {
        parts();
        promise19();
        wages();
        promise20();
        promise21();
        turns();
        promise22();
        DUE.end("EdgesOfPartsTest");
    }
}
