/** Promises 1 to 6: a new object, price, bought, cost, goods, count. */
public final class BooksTest {
    private static final int NONE = YearBaskets.NONE, UNKNOWN = YearBaskets.UNKNOWN, OUTSIDE = YearBaskets.OUTSIDE;
    private static final int NOT = YearBaskets.NOT;
    private static final Due DUE = new Due();

    private static void due(String call, long got, long want) {
        DUE.due(call, got, want);
    }

    private static void aNewObject() {
        YearBaskets x = new YearBaskets();
        for (int what = 0; what < 5; what++) {
            due("new: count(" + what + ")", x.count(what), 0);
        }
        for (int y = 0; y < 8; y++) {
            for (int g = 0; g < 5; g++) {
                due("new: price", x.price(y, g, 0), 0);
                for (int p = 0; p < 3; p++) {
                    due("new: bought", x.bought(p, y, g, 0), 0);
                }
            }
        }
        due("new: fault()", x.fault(), NONE);
        due("new: goods(0, 1, 2)", x.goods(0, 1, 2), 0);
        due("new: worth(0, 0, 0, 0, 0)", x.worth(0, 0, 0, 0, 0), UNKNOWN);
        due("new: clash(0)", x.clash(0), 0);
        due("new: ring(3, NONE)", x.ring(3, NONE), 0);
    }

    private static void price() {
        YearBaskets x = new YearBaskets();
        due("price(7, 4, 99)", x.price(7, 4, 99), 0);
        due("price(7, 4, 1)", x.price(7, 4, 1), 99);
        due("price(7, 4, 100)", x.price(7, 4, 100), OUTSIDE);
        due("price(7, 4, -1)", x.price(7, 4, -1), OUTSIDE);
        due("price(8, 4, 1)", x.price(8, 4, 1), UNKNOWN);
        due("price(-1, 4, 1)", x.price(-1, 4, 1), UNKNOWN);
        due("price(7, 5, 1)", x.price(7, 5, 1), UNKNOWN);
        due("price(7, -1, 100)", x.price(7, -1, 100), UNKNOWN);
        due("price(MIN, MAX, MIN)", x.price(Integer.MIN_VALUE, Integer.MAX_VALUE, Integer.MIN_VALUE), UNKNOWN);
        due("price after what was refused", x.price(7, 4, 0), 1);
        due("price of what is missing again", x.price(7, 4, 5), 0);
        due("price beside it", x.price(7, 3, 5), 0);
    }

    private static void bought() {
        YearBaskets x = new YearBaskets();
        due("bought(2, 7, 4, 9)", x.bought(2, 7, 4, 9), 0);
        due("bought(2, 7, 4, 3)", x.bought(2, 7, 4, 3), 9);
        due("bought(2, 7, 4, 10)", x.bought(2, 7, 4, 10), OUTSIDE);
        due("bought(2, 7, 4, -1)", x.bought(2, 7, 4, -1), OUTSIDE);
        due("bought(3, 7, 4, 1)", x.bought(3, 7, 4, 1), UNKNOWN);
        due("bought(-1, 7, 4, 1)", x.bought(-1, 7, 4, 1), UNKNOWN);
        due("bought(2, 8, 4, 1)", x.bought(2, 8, 4, 1), UNKNOWN);
        due("bought(2, 7, 5, 10)", x.bought(2, 7, 5, 10), UNKNOWN);
        due("bought after what was refused", x.bought(2, 7, 4, 0), 3);
        due("bought by another PERSON", x.bought(1, 7, 4, 2), 0);
    }

    private static void cost() {
        YearBaskets x = new YearBaskets();
        Due.prices(x, 0, 2, 3, 0, 0, 7);
        Due.prices(x, 1, 4, 3, 5, 0, 0);
        Due.basket(x, 0, 0, 5, 1);
        Due.basket(x, 1, 0, 1, 0, 0, 0, 2);
        Due.basket(x, 2, 1, 0, 0, 3);
        due("cost(0, 0, 0)", x.cost(0, 0, 0), 13);
        due("cost(0, 1, 0)", x.cost(0, 1, 0), 23);
        due("cost(0, 0, 1), nothing BOUGHT", x.cost(0, 0, 1), 0);
        due("cost(1, 0, 0)", x.cost(1, 0, 0), 16);
        due("cost(1, 1, 0), GOOD 4 is missing", x.cost(1, 1, 0), NOT);
        due("cost(2, 0, 1), GOOD 2 is missing", x.cost(2, 0, 1), NOT);
        due("cost(2, 1, 1)", x.cost(2, 1, 1), 15);
        due("cost(3, 0, 0), all together", x.cost(3, 0, 0), 2 * 6 + 3 + 7 * 2);
        due("cost(3, 1, 0), one of them HOLED", x.cost(3, 1, 0), NOT);
        Due.basket(x, 0, 0, 4);
        due("cost(3, 0, 0), one less", x.cost(3, 0, 0), 2 * 5 + 3 + 7 * 2);
        x.bought(0, 2, 3, 1);
        due("cost(0, 0, 2), of a GOOD that there is not", x.cost(0, 0, 2), NOT);
        due("cost(4, 0, 0)", x.cost(4, 0, 0), UNKNOWN);
        due("cost(-1, 0, 0)", x.cost(-1, 0, 0), UNKNOWN);
        due("cost(0, 8, 0)", x.cost(0, 8, 0), UNKNOWN);
        due("cost(0, 0, -1)", x.cost(0, 0, -1), UNKNOWN);
        due("cost(0, 0, 8), UNKNOWN ahead of NOT", x.cost(2, 0, 8), UNKNOWN);
    }

    private static void goods() {
        YearBaskets x = new YearBaskets();
        Due.prices(x, 0, 1, 0, 1, 0, 0);
        Due.prices(x, 1, 0, 1, 1, 0, 0);
        Due.prices(x, 5, 0, 0, 0, 0, 9);
        due("goods(0, 1, 0)", x.goods(0, 1, 0), 2);
        due("goods(0, 1, 1)", x.goods(0, 1, 1), 1);
        due("goods(1, 0, 0)", x.goods(1, 0, 0), 1);
        due("goods(1, 0, 1)", x.goods(1, 0, 1), 2);
        due("goods(0, 0, 0)", x.goods(0, 0, 0), 0);
        due("goods(0, 5, 0)", x.goods(0, 5, 0), 16);
        due("goods(0, 5, 1)", x.goods(0, 5, 1), 5);
        due("goods(0, 1, 2), in some YEAR", x.goods(0, 1, 2), 1 + 2 + 4 + 16);
        x.price(5, 4, 0);
        due("goods(0, 1, 2) without GOOD 4", x.goods(0, 1, 2), 7);
        due("goods(0, 1, 3)", x.goods(0, 1, 3), OUTSIDE);
        due("goods(0, 1, -1)", x.goods(0, 1, -1), OUTSIDE);
        due("goods(8, 1, 2)", x.goods(8, 1, 2), UNKNOWN);
        due("goods(0, -1, 3)", x.goods(0, -1, 3), UNKNOWN);
    }

    private static void count() {
        YearBaskets x = new YearBaskets();
        Due.prices(x, 0, 1, 0, 1, 0, 0);
        Due.prices(x, 1, 0, 1, 1, 0, 0);
        Due.prices(x, 5, 9, 0, 0, 0, 0);
        Due.numberOf(x, "old");
        Due.numberOf(x, "new");
        Due.numberOf(x, "newer");
        Due.feedText(x, "mean(");
        due("count(0)", x.count(0), 2);
        due("count(1)", x.count(1), 5);
        due("count(2)", x.count(2), 5);
        due("count(3)", x.count(3), 3);
        due("count(4)", x.count(4), 3);
        due("count(5)", x.count(5), OUTSIDE);
        due("count(-1)", x.count(-1), OUTSIDE);
        x.price(5, 0, 0);
        due("count(2) less one", x.count(2), 4);
        due("count(4) less one", x.count(4), 2);
    }

    public static void main(String[] args) {
        aNewObject();
        price();
        bought();
        cost();
        goods();
        count();
        DUE.end("BooksTest");
    }
}
