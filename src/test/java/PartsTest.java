/** Promises 19 to 22: part, wage, dearest, turn. */
public final class PartsTest {
    private static final int NONE = YearBaskets.NONE, UNKNOWN = YearBaskets.UNKNOWN, OUTSIDE = YearBaskets.OUTSIDE;
    private static final int NOT = YearBaskets.NOT, LARGE = YearBaskets.LARGE;
    private static final Due DUE = new Due();

    private static void due(String call, long got, long want) {
        DUE.due(call, got, want);
    }

    private static YearBaskets two() {
        YearBaskets x = new YearBaskets();
        Due.prices(x, 0, 2, 3);
        Due.prices(x, 1, 4, 3);
        Due.basket(x, 0, 0, 5, 1);
        Due.basket(x, 0, 1, 2, 4);
        return x;
    }

    /** link old rises by r each step. */
    private static YearBaskets steps(int r) {
        YearBaskets x = new YearBaskets();
        for (int y = 0; y < 8; y++) {
            Due.prices(x, y, y % 2 == 0 ? 1 : r, y % 2 == 0 ? r : 1);
            Due.basket(x, 0, y, y % 2 == 0 ? 1 : 0, y % 2 == 0 ? 0 : 1);
        }
        return x;
    }

    private static void part() {
        YearBaskets x = two();
        due("part: upper", x.part(0, 0, 0, 1, 0), 10);
        due("part: lower", x.part(0, 0, 0, 1, 1), 13);
        due("part: like PRICES, upper", x.part(0, 1, 0, 1, 0), 0);
        due("part: like PRICES, lower", x.part(0, 1, 0, 1, 1), 1);
        due("part: fallen, upper", x.part(0, 0, 1, 0, 0), -1);
        due("part: fallen, lower", x.part(0, 0, 1, 0, 1), 5);
        due("part: not BOUGHT, upper", x.part(0, 3, 0, 1, 0), 0);
        due("part: not BOUGHT, lower", x.part(0, 3, 0, 1, 1), 1);
        due("part: PRICE in b missing", x.part(0, 0, 0, 2, 0), NOT);
        due("part: not BOUGHT, PRICE missing", x.part(0, 2, 0, 2, 1), 1);
        due("part: nothing BOUGHT at all", x.part(1, 0, 0, 1, 0), NOT);
        due("part: of all together", x.part(3, 0, 0, 1, 0), 10);
        due("part(4, ..)", x.part(4, 0, 0, 1, 2), UNKNOWN);
        due("part, g 5", x.part(0, 5, 0, 1, 0), UNKNOWN);
        due("part, a 8", x.part(0, 0, 8, 1, 0), UNKNOWN);
        due("part, b -1", x.part(0, 0, 0, -1, 0), UNKNOWN);
        due("part, what 2", x.part(0, 0, 0, 1, 2), OUTSIDE);
        due("part, what -1, OUTSIDE ahead of NOT", x.part(1, 0, 0, 1, -1), OUTSIDE);
        Due.prices(x, 6, 1, 1);
        Due.prices(x, 7, 4, 1);
        x.bought(0, 6, 0, 1);
        due("part: COST (a, a) 1", x.part(0, 0, 6, 7, 0), 3);
        due("part: PRICE in b 1", x.part(0, 0, 0, 6, 0), -5);
        x.bought(0, 0, 4, 1);
        due("part: COST (a, a) HOLED", x.part(0, 0, 0, 1, 0), NOT);
        due("part: COST (a, a) HOLED, not BOUGHT", x.part(0, 3, 0, 1, 0), NOT);
    }

    private static void partAsARefusal() {
        YearBaskets x = new YearBaskets();
        Due.prices(x, 0, 92, 89);
        Due.prices(x, 1, 1, 89);
        for (int p = 0; p < 3; p++) {
            Due.basket(x, p, 0, p < 2 ? 4 : 3, 1);
        }
        due("part that is as UNKNOWN is", x.part(3, 0, 0, 1, 0), -1001);
        due("its lower one", x.part(3, 0, 0, 1, 1), 92 * 11 + 3 * 89);
    }

    private static void wage() {
        YearBaskets x = two();
        for (String text : new String[] {"old", "root(old,new)", "at2"}) {
            Due.numberOf(x, text);
        }
        due("wage of 100", x.wage(0, 0, 100, 0, 1), 176);
        due("wage of 13", x.wage(0, 0, 13, 0, 1), 23);
        due("wage of 1", x.wage(0, 0, 1, 0, 1), 1);
        due("wage of 99999", x.wage(0, 0, 99999, 0, 1), 176921);
        due("wage in the same YEAR", x.wage(0, 0, 777, 0, 0), 777);
        due("wage by a root", x.wage(1, 0, 100, 0, 1), 148);
        due("wage by a root, in the same YEAR", x.wage(1, 0, 99999, 1, 1), 99999);
        due("wage by what is NOT", x.wage(2, 0, 100, 0, 1), NOT);
        due("wage(3, ..)", x.wage(3, 0, 100, 0, 1), UNKNOWN);
        due("wage, who 4, w 0", x.wage(0, 4, 0, 0, 1), UNKNOWN);
        due("wage, a 8", x.wage(0, 0, 1, 8, 1), UNKNOWN);
        due("wage, y 8", x.wage(0, 0, 1, 0, 8), UNKNOWN);
        due("wage of 0", x.wage(0, 0, 0, 0, 1), OUTSIDE);
        due("wage of 100000", x.wage(0, 0, 100000, 0, 1), OUTSIDE);
        due("wage of -1, OUTSIDE ahead of NOT", x.wage(2, 0, -1, 0, 1), OUTSIDE);
    }

    private static void wageThatIsLarge() {
        YearBaskets x = steps(99);
        Due.numberOf(x, "link old");
        long seven = 99L * 99 * 99 * 99 * 99 * 99 * 99;
        due("wage below 10 to the 18", x.wage(0, 0, 10728, 0, 7), 10728 * seven);
        due("wage above it", x.wage(0, 0, 10729, 0, 7), LARGE);
        x = steps(10);
        Due.numberOf(x, "link root(old,old)");
        Due.numberOf(x, "link root(new,new)");
        due("wage by a root, just 10 to the 18", x.wage(0, 0, 10000, 0, 5), 1000000000);
        due("wage by a root, above it", x.wage(0, 0, 10001, 0, 5), LARGE);
        due("wage by a root, less than 1", x.wage(1, 0, 99999, 0, 5), 0);
        due("wage by a root, cut", x.wage(1, 0, 99999, 0, 2), 999);
    }

    private static void dearest() {
        YearBaskets x = two();
        for (String text : new String[] {"old", "plain", "root(old,new)", "at2"}) {
            Due.numberOf(x, text);
        }
        due("dearest: one alone", x.dearest(0, 0, 1), 0);
        due("dearest: all alike", x.dearest(1, 0, 1), 0);
        due("dearest: none", x.dearest(3, 0, 1), NONE);
        Due.basket(x, 1, 0, 9, 1);
        Due.basket(x, 2, 0, 9, 1);
        due("dearest: of like ones the least", x.dearest(0, 0, 1), 1);
        Due.basket(x, 2, 0, 9, 0);
        due("dearest: the last one", x.dearest(0, 0, 1), 2);
        due("dearest by roots: those that are NOT left out", x.dearest(2, 0, 1), 0);
        due("dearest(4, ..)", x.dearest(4, 0, 1), UNKNOWN);
        due("dearest, a 8", x.dearest(0, 8, 1), UNKNOWN);
        due("dearest, b -1", x.dearest(0, 0, -1), UNKNOWN);
        x.bought(2, 0, 4, 1);
        x.price(5, 4, 1);
        due("dearest: what is HOLED is left out", x.dearest(0, 0, 1), 1);
    }

    /** A root against 10 to the 7 less: the ORDER is alike; against 4 times that it is LARGE. */
    private static void dearestByLargeOrders() {
        YearBaskets x = steps(10);
        Due.numberOf(x, "most(link old,root(old,old))");
        due("most of both is LARGE where one of them cannot be multiplied", x.dearest(0, 0, 7), 0);
        x.price(7, 0, 40);
        due("left out then", x.dearest(0, 0, 7), NONE);
    }

    private static void turn() {
        YearBaskets x = two();
        for (String text : new String[] {"old", "new", "root(old,new)", "plain"}) {
            Due.numberOf(x, text);
        }
        due("turn of old to 1", x.turn(0, 0, 0, 1, 1, 0, 1, 1), 2);
        due("turn of old to 2", x.turn(0, 0, 0, 1, 1, 0, 2, 1), 5);
        due("turn of old to 23 / 13", x.turn(0, 0, 0, 1, 1, 0, 23, 13), 4);
        due("turn of old to the PRICE 99", x.turn(0, 0, 0, 1, 1, 0, 498, 13), 99);
        due("turn of old to more", x.turn(0, 0, 0, 1, 1, 0, 499, 13), NONE);
        due("turn of old to 9999", x.turn(0, 0, 0, 1, 1, 0, 9999, 1), NONE);
        due("turn of old to next to nothing", x.turn(0, 0, 0, 1, 1, 0, 1, 9999), 1);
        due("turn by the YEAR below", x.turn(0, 0, 0, 1, 0, 0, 2, 1), 1);
        due("turn by a root", x.turn(2, 0, 0, 1, 1, 0, 3, 2), 5);
        due("turn by a YEAR that does not matter", x.turn(0, 0, 0, 1, 5, 0, 3, 2), 1);
        due("turn by a GOOD that was not", x.turn(3, 0, 0, 1, 0, 3, 1, 1), NONE);
        x.bought(0, 0, 3, 1);
        x.price(0, 3, 1);
        due("turn by a PRICE that is missing", x.turn(0, 0, 0, 1, 1, 3, 2, 1), 5);
        due("turn changes nothing", x.cost(0, 1, 0), NOT);
        due("turn(4, ..)", x.turn(4, 0, 0, 1, 1, 0, 0, 1), UNKNOWN);
        due("turn, who 4", x.turn(0, 4, 0, 1, 1, 0, 1, 1), UNKNOWN);
        due("turn, a 8", x.turn(0, 0, 8, 1, 1, 0, 1, 1), UNKNOWN);
        due("turn, b 8", x.turn(0, 0, 0, 8, 1, 0, 1, 1), UNKNOWN);
        due("turn, y 8", x.turn(0, 0, 0, 1, 8, 0, 1, 1), UNKNOWN);
        due("turn, g 5", x.turn(0, 0, 0, 1, 1, 5, 1, 0), UNKNOWN);
        due("turn, u 0", x.turn(0, 0, 0, 1, 1, 0, 0, 1), OUTSIDE);
        due("turn, u 10000", x.turn(0, 0, 0, 1, 1, 0, 10000, 1), OUTSIDE);
        due("turn, l 0", x.turn(0, 0, 0, 1, 1, 0, 1, 0), OUTSIDE);
        due("turn, l 10000", x.turn(0, 0, 0, 1, 1, 0, 1, 10000), OUTSIDE);
    }

    public static void main(String[] args) {
        part();
        partAsARefusal();
        wage();
        wageThatIsLarge();
        dearest();
        dearestByLargeOrders();
        turn();
        DUE.end("PartsTest");
    }
}
