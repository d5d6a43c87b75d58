/** Sentence by sentence: 'YEARS, GOODS, PERSONS, COST', and promises 1 to 6. */
public final class EdgesOfBooksTest {
    private static final int NONE = YearBaskets.NONE, UNKNOWN = YearBaskets.UNKNOWN, OUTSIDE = YearBaskets.OUTSIDE;
    private static final int NOT = YearBaskets.NOT;
    private static final Due DUE = new Due();

    private static void due(String call, long got, long want) {
        DUE.due(call, got, want);
    }

    /** Nothing is missing, and NUMBER 0 is old. */
    private static YearBaskets fullWithOld() {
        YearBaskets x = Worlds.full();
        Due.numberOf(x, "old");
        return x;
    }

    private static void yearsAndGoods() {
        DUE.says("YEARS 0 to 7; GOODS 0 to 4.");
        YearBaskets x = fullWithOld();
        DUE.edges("price(y, ..)", 0, 7, UNKNOWN, y -> x.price(y, 0, 2));
        DUE.edges("price(0, g, ..)", 0, 4, UNKNOWN, g -> x.price(0, g, 2));
        DUE.edges("bought(0, y, ..)", 0, 7, UNKNOWN, y -> x.bought(0, y, 0, 1));
        DUE.edges("bought(0, 0, g, ..)", 0, 4, UNKNOWN, g -> x.bought(0, 0, g, 1));
        DUE.edges("cost(0, y, 0)", 0, 7, UNKNOWN, y -> x.cost(0, y, 0));
        DUE.edges("cost(0, 0, z)", 0, 7, UNKNOWN, z -> x.cost(0, 0, z));
        DUE.edges("goods(a, 0, 2)", 0, 7, UNKNOWN, a -> x.goods(a, 0, 2));
        DUE.edges("goods(0, b, 2)", 0, 7, UNKNOWN, b -> x.goods(0, b, 2));
        DUE.edges("worth(0, 0, a, 0, 0)", 0, 7, UNKNOWN, a -> x.worth(0, 0, a, 0, 0));
        DUE.edges("worth(0, 0, 0, b, 0)", 0, 7, UNKNOWN, b -> x.worth(0, 0, 0, b, 0));
        DUE.edges("order(0, 0, 0, a, 0)", 0, 7, UNKNOWN, a -> x.order(0, 0, 0, a, 0));
        DUE.edges("order(0, 0, 0, 0, b)", 0, 7, UNKNOWN, b -> x.order(0, 0, 0, 0, b));
        YearBaskets z = fullWithOld();
        DUE.edges("drift(0, 0, a, 0, 0)", 0, 7, UNKNOWN, a -> z.drift(0, 0, a, 0, 0));
        DUE.edges("drift(0, 0, 0, b, 0)", 0, 7, UNKNOWN, b -> z.drift(0, 0, 0, b, 0));
        DUE.edges("chosen(0, y, 0)", 0, 7, UNKNOWN, y -> z.chosen(0, y, 0));
        DUE.edges("chosen(0, 0, z)", 0, 7, UNKNOWN, y -> z.chosen(0, 0, y));
        DUE.edges("need(0, a, 0, 0)", 0, 7, UNKNOWN, a -> z.need(0, a, 0, 0));
        DUE.edges("need(0, 0, b, 0)", 0, 7, UNKNOWN, b -> z.need(0, 0, b, 0));
        DUE.edges("part(0, g, 0, 1, 0)", 0, 4, UNKNOWN, g -> z.part(0, g, 0, 1, 0));
        DUE.edges("part(0, 0, a, 1, 0)", 0, 7, UNKNOWN, a -> z.part(0, 0, a, 1, 0));
        DUE.edges("part(0, 0, 0, b, 0)", 0, 7, UNKNOWN, b -> z.part(0, 0, 0, b, 0));
        DUE.edges("wage(0, 0, 9, a, 0)", 0, 7, UNKNOWN, a -> z.wage(0, 0, 9, a, 0));
        DUE.edges("wage(0, 0, 9, 0, y)", 0, 7, UNKNOWN, y -> z.wage(0, 0, 9, 0, y));
        DUE.edges("dearest(0, a, 0)", 0, 7, UNKNOWN, a -> z.dearest(0, a, 0));
        DUE.edges("dearest(0, 0, b)", 0, 7, UNKNOWN, b -> z.dearest(0, 0, b));
        DUE.edges("turn(0, 0, a, 0, 0, 0, 1, 1)", 0, 7, UNKNOWN, a -> z.turn(0, 0, a, 0, 0, 0, 1, 1));
        DUE.edges("turn(0, 0, 0, b, 0, 0, 1, 1)", 0, 7, UNKNOWN, b -> z.turn(0, 0, 0, b, 0, 0, 1, 1));
        DUE.edges("turn(0, 0, 0, 1, y, 0, 1, 1)", 0, 7, UNKNOWN, y -> z.turn(0, 0, 0, 1, y, 0, 1, 1));
        DUE.edges("turn(0, 0, 0, 1, 0, g, 1, 1)", 0, 4, UNKNOWN, g -> z.turn(0, 0, 0, 1, 0, g, 1, 1));
    }

    /** Each YEAR and GOOD keeps what is its own: no two places are one. */
    private static void pricesApart() {
        DUE.says("A PRICE of a GOOD in a YEAR is 1 .. 99, or missing (0; at first).");
        YearBaskets x = new YearBaskets();
        for (int y = 0; y < 8; y++) {
            for (int g = 0; g < 5; g++) {
                due("price(" + y + ", " + g + ") at first", x.price(y, g, 1 + 5 * y + g), 0);
            }
        }
        for (int y = 0; y < 8; y++) {
            for (int g = 0; g < 5; g++) {
                due("price(" + y + ", " + g + ") again", x.price(y, g, 0), 1 + 5 * y + g);
            }
        }
        DUE.edges("price(7, 4, v)", 0, 99, OUTSIDE, v -> x.price(7, 4, v));
        x.price(7, 4, 1);
        due("the least PRICE", x.price(7, 4, 99), 1);
        due("the greatest PRICE", x.price(7, 4, 0), 99);
        due("missing: no PRICE", x.count(2), 0);
    }

    private static void amountsApart() {
        DUE.says("PERSONS 0 to 2 have BOUGHT 0 .. 9 of a GOOD in a YEAR (0 at first);");
        YearBaskets x = new YearBaskets();
        for (int i = 0; i < 120; i++) {
            due("bought at first, place " + i, x.bought(i / 40, i / 5 % 8, i % 5, (7 * i + i / 9) % 10), 0);
        }
        for (int i = 0; i < 120; i++) {
            due("bought again, place " + i, x.bought(i / 40, i / 5 % 8, i % 5, 0), (7 * i + i / 9) % 10);
        }
        DUE.edges("bought(p, ..)", 0, 2, UNKNOWN, p -> x.bought(p, 0, 0, 1));
        DUE.edges("bought(2, 7, 4, v)", 0, 9, OUTSIDE, v -> x.bought(2, 7, 4, v));
        due("the greatest amount", x.bought(2, 7, 4, 0), 9);
        due("the least amount", x.bought(2, 7, 4, 0), 0);
    }

    private static void allTogether() {
        DUE.says("WHO is a PERSON, or 3: all together (added up).");
        YearBaskets x = fullWithOld();
        DUE.edges("cost(who, ..)", 0, 3, UNKNOWN, who -> x.cost(who, 0, 1));
        DUE.edges("worth(0, who, ..)", 0, 3, UNKNOWN, who -> x.worth(0, who, 0, 1, 0));
        DUE.edges("order(0, 0, who, ..)", 0, 3, UNKNOWN, who -> x.order(0, 0, who, 0, 1));
        DUE.edges("keeps(0, who, ..)", 0, 3, UNKNOWN, who -> x.keeps(0, who, 1));
        DUE.edges("breach(0, who, ..)", 0, 3, UNKNOWN, who -> x.breach(0, who, 1, 0));
        DUE.edges("clash(who)", 0, 3, UNKNOWN, who -> x.clash(who));
        DUE.edges("drift(0, who, ..)", 0, 3, UNKNOWN, who -> x.drift(0, who, 0, 2, 0));
        DUE.edges("chosen(who, ..)", 0, 3, UNKNOWN, who -> x.chosen(who, 0, 1));
        DUE.edges("ring(who, ..)", 0, 3, UNKNOWN, who -> x.ring(who, NONE));
        DUE.edges("need(who, ..)", 0, 3, UNKNOWN, who -> x.need(who, 0, 1, 0));
        DUE.edges("part(who, ..)", 0, 3, UNKNOWN, who -> x.part(who, 0, 0, 1, 0));
        DUE.edges("wage(0, who, ..)", 0, 3, UNKNOWN, who -> x.wage(0, who, 9, 0, 1));
        DUE.edges("turn(0, who, ..)", 0, 3, UNKNOWN, who -> x.turn(0, who, 0, 1, 0, 0, 1, 1));
        YearBaskets z = new YearBaskets();
        z.price(0, 0, 7);
        for (int p = 0; p < 3; p++) {
            z.bought(p, 0, 0, p + 2);
            due("cost of PERSON " + p, z.cost(p, 0, 0), 7 * (p + 2));
        }
        due("cost of all together", z.cost(3, 0, 0), 7 * 9);
        z.bought(1, 0, 0, 0);
        due("cost of all together, less what one gave up", z.cost(3, 0, 0), 7 * 6);
        z.bought(1, 0, 0, 9);
        due("cost of all together, more again", z.cost(3, 0, 0), 7 * 15);
    }

    private static void costs() {
        DUE.says("COST (y, z) for WHO: the sum over GOODS of PRICES of y times what was BOUGHT in z.");
        YearBaskets x = new YearBaskets();
        due("cost of nothing", x.cost(0, 0, 7), 0);
        for (int g = 0; g < 5; g++) {
            x.price(7, g, 99);
            for (int p = 0; p < 3; p++) {
                x.bought(p, 0, g, 9);
            }
        }
        due("the greatest COST of a PERSON", x.cost(2, 7, 0), 5 * 99 * 9);
        due("the greatest COST", x.cost(3, 7, 0), 5 * 99 * 27);
        due("PRICES of 0 for what was BOUGHT in 7", x.cost(3, 0, 7), 0);
        YearBaskets z = new YearBaskets();
        Due.prices(z, 6, 1, 10, 0, 1, 50);
        Due.basket(z, 1, 5, 9, 8, 0, 7, 6);
        due("GOOD by GOOD", z.cost(1, 6, 5), 9 + 80 + 7 + 300);
    }

    private static void holes() {
        DUE.says("It is HOLED, if a PRICE that is missing is asked for more than 0.");
        for (int g = 0; g < 5; g++) {
            YearBaskets x = new YearBaskets();
            Due.prices(x, 3, 1, 1, 1, 1, 1);
            Due.basket(x, 0, 4, 2, 2, 2, 2, 2);
            due("nothing missing", x.cost(0, 3, 4), 10);
            x.price(3, g, 0);
            due("GOOD " + g + " missing, asked for 2", x.cost(0, 3, 4), NOT);
            x.bought(0, 4, g, 1);
            due("GOOD " + g + " missing, asked for 1", x.cost(0, 3, 4), NOT);
            x.bought(0, 4, g, 0);
            due("GOOD " + g + " missing, asked for 0", x.cost(0, 3, 4), 8);
            x.bought(2, 4, g, 1);
            due("another one asks for it", x.cost(0, 3, 4), 8);
            due("so all together do", x.cost(3, 3, 4), NOT);
            x.price(3, g, 1);
            due("no more missing", x.cost(3, 3, 4), 9);
        }
    }

    private static void promise1() {
        DUE.says("No PRICES, nothing BOUGHT, no NUMBERS.");
        YearBaskets x = new YearBaskets();
        for (int what = 0; what < 5; what++) {
            due("new: count(" + what + ")", x.count(what), 0);
        }
        for (int who = 0; who < 4; who++) {
            for (int y = 0; y < 8; y++) {
                due("new: cost(" + who + ", " + y + ", " + y + ")", x.cost(who, y, 7 - y), 0);
            }
            due("new: clash(" + who + ")", x.clash(who), 0);
            due("new: ring(" + who + ", NONE)", x.ring(who, NONE), 0);
        }
        due("new: goods(0, 7, 2)", x.goods(0, 7, 2), 0);
        due("new: NUMBER 0", x.worth(0, 0, 0, 1, 0), UNKNOWN);
        due("new: fault()", x.fault(), NONE);
        due("new: the text is empty", x.number(), -11);
        YearBaskets other = Worlds.full();
        due("a new one beside a full one", new YearBaskets().count(2), 0);
        due("the full one", other.count(2), 40);
    }

    private static void promise2() {
        DUE.says("A PRICE becomes v (0: missing): what it was. UNKNOWN, OUTSIDE.");
        YearBaskets x = new YearBaskets();
        x.bought(0, 1, 2, 1);
        due("missing before", x.price(1, 2, 50), 0);
        due("what it was", x.price(1, 2, 51), 50);
        due("what it is", x.cost(0, 1, 1), 51);
        due("what it was, again", x.price(1, 2, 0), 51);
        due("it is missing", x.cost(0, 1, 1), NOT);
        due("it was missing", x.price(1, 2, 1), 0);
        due("UNKNOWN", x.price(8, 2, 1), UNKNOWN);
        due("OUTSIDE", x.price(1, 2, 100), OUTSIDE);
        due("as before what was refused", x.price(1, 2, 1), 1);
    }

    private static void promise3() {
        DUE.says("What a PERSON BOUGHT becomes v: what it was. UNKNOWN, OUTSIDE.");
        YearBaskets x = new YearBaskets();
        x.price(1, 2, 10);
        due("nothing before", x.bought(2, 1, 2, 8), 0);
        due("what it was", x.bought(2, 1, 2, 9), 8);
        due("what it is", x.cost(2, 1, 1), 90);
        due("what it was, again", x.bought(2, 1, 2, 0), 9);
        due("what it is, again", x.cost(2, 1, 1), 0);
        due("WHO 3 is no PERSON", x.bought(3, 1, 2, 1), UNKNOWN);
        due("OUTSIDE", x.bought(2, 1, 2, 10), OUTSIDE);
        due("as before what was refused", x.cost(3, 1, 1), 0);
    }

    private static void promise4() {
        DUE.says("COST (y, z) for WHO. UNKNOWN; NOT: HOLED.");
        YearBaskets x = new YearBaskets();
        x.price(7, 4, 3);
        x.bought(1, 6, 4, 2);
        due("cost(1, 7, 6)", x.cost(1, 7, 6), 6);
        due("cost(1, 6, 6)", x.cost(1, 6, 6), NOT);
        due("cost(1, 6, 7)", x.cost(1, 6, 7), 0);
        due("cost(1, 6, 8)", x.cost(1, 6, 8), UNKNOWN);
        x.price(7, 4, 0);
        due("a GOOD that there is not", x.cost(1, 7, 6), NOT);
    }

    private static void promise5() {
        DUE.says("GOODS that came from YEAR a to b (missing in a, not in b; what = 0), that went (1), that there are (2): the SET. "
                + "UNKNOWN, OUTSIDE.");
        YearBaskets x = new YearBaskets();
        Due.prices(x, 2, 0, 0, 5, 5, 0);
        Due.prices(x, 3, 0, 6, 0, 6, 0);
        Due.prices(x, 7, 0, 0, 0, 0, 7);
        due("came: missing in a, not in b", x.goods(2, 3, 0), 2);
        due("went: not in a, missing in b", x.goods(2, 3, 1), 4);
        due("there are: in any YEAR", x.goods(2, 3, 2), 2 + 4 + 8 + 16);
        due("there are: whichever a and b", x.goods(0, 0, 2), 2 + 4 + 8 + 16);
        due("came from itself", x.goods(2, 2, 0), 0);
        due("went from itself", x.goods(2, 2, 1), 0);
        due("came from a YEAR that has none", x.goods(0, 3, 0), 10);
        due("went to a YEAR that has none", x.goods(3, 0, 1), 10);
        DUE.edges("goods(2, 3, what)", 0, 2, OUTSIDE, what -> x.goods(2, 3, what));
        due("UNKNOWN", x.goods(2, 8, 0), UNKNOWN);
    }

    private static void promise6() {
        DUE.says("How many: 0 NUMBERS, 1 bytes of THE TEXT, 2 PRICES, 3 GOODS that there are, 4 YEARS with some PRICE. OUTSIDE.");
        YearBaskets x = new YearBaskets();
        for (int y = 0; y < 8; y++) {
            x.price(y, y % 5, 9);
            due("PRICES up to YEAR " + y, x.count(2), y + 1);
            due("GOODS up to YEAR " + y, x.count(3), Math.min(y + 1, 5));
            due("YEARS up to YEAR " + y, x.count(4), y + 1);
        }
        x.price(7, 0, 9);
        due("two PRICES of a YEAR", x.count(2), 9);
        due("a YEAR once", x.count(4), 8);
        x.price(7, 0, 0);
        x.price(7, 2, 0);
        due("a YEAR without PRICES", x.count(4), 7);
        x.price(4, 4, 0);
        due("a GOOD without PRICES", x.count(3), 4);
        for (int n = 0; n < 8; n++) {
            due("NUMBERS", x.count(0), n);
            Due.numberOf(x, "new");
        }
        due("NUMBERS: all", x.count(0), 8);
        for (int i = 0; i < 60; i++) {
            due("bytes", x.count(1), i);
            x.feed(1, 0);
        }
        due("bytes: all", x.count(1), 60);
        DUE.edges("count(what)", 0, 4, OUTSIDE, x::count);
        due("PRICES at most", Worlds.full().count(2), 40);
    }

    public static void main(String[] args) {
        yearsAndGoods();
        pricesApart();
        amountsApart();
        allTogether();
        costs();
        holes();
        promise1();
        promise2();
        promise3();
        promise4();
        promise5();
        promise6();
        DUE.end("EdgesOfBooksTest");
    }
}
