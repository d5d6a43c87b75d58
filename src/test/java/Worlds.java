/** Objects that several tests begin with. */
final class Worlds {
    /** Sums that the amounts 1 to 9 of two GOODS and PRICES up to 99 can come to. */
    private static final int MOST_AMOUNT = 9, MOST_PRICE = 99;

    private Worlds() { }

    /** Two YEARS, two GOODS: old is 23 / 13, new 5 / 4. */
    static YearBaskets two() {
        YearBaskets x = new YearBaskets();
        Due.prices(x, 0, 2, 3);
        Due.prices(x, 1, 4, 3);
        Due.basket(x, 0, 0, 5, 1);
        Due.basket(x, 0, 1, 2, 4);
        return x;
    }

    /** Nothing is missing: each GOOD has a PRICE in each YEAR, and PERSON p BOUGHT some of each. */
    static YearBaskets full() {
        YearBaskets x = new YearBaskets();
        for (int y = 0; y < 8; y++) {
            for (int g = 0; g < 5; g++) {
                x.price(y, g, 1 + (3 * y + 2 * g) % 7);
                for (int p = 0; p < 3; p++) {
                    x.bought(p, y, g, 1 + (y + g * p) % 4);
                }
            }
        }
        return x;
    }

    /**
     * link old for PERSON 0 goes from YEAR to YEAR by upper, lower, upper, lower .. as told;
     * link new goes back by the same.
     */
    static YearBaskets chain(int... shares) {
        YearBaskets x = new YearBaskets();
        for (int y = 0; 2 * y + 1 < shares.length; y++) {
            step(x, y, shares[2 * y], shares[2 * y + 1]);
        }
        return x;
    }

    /** GOODS 0 and 1 carry the steps from even YEARS, 2 and 3 those from odd ones: no PRICE serves two steps. */
    static void step(YearBaskets x, int y, int upper, int lower) {
        int g = y % 2 * 2;
        for (int times = 1; times < 100; times++) {
            for (int one = 1; one <= MOST_AMOUNT; one++) {
                for (int two = 1; two <= one; two++) {
                    int[] before = split(times * lower, one, two);
                    int[] after = split(times * upper, one, two);
                    if (before != null && after != null) {
                        x.bought(0, y, g, one);
                        x.bought(0, y, g + 1, two);
                        x.price(y, g, before[0]);
                        x.price(y, g + 1, before[1]);
                        x.price(y + 1, g, after[0]);
                        x.price(y + 1, g + 1, after[1]);
                        return;
                    }
                }
            }
        }
        throw new IllegalArgumentException("no step of " + upper + " / " + lower);
    }

    /** Two PRICES that come to a sum by two amounts; null: there are none. */
    private static int[] split(int sum, int one, int two) {
        for (int p = Math.min(MOST_PRICE, (sum - two) / one); p >= 1; p--) {
            int rest = sum - p * one;
            if (rest % two == 0 && rest / two >= 1 && rest / two <= MOST_PRICE) {
                return new int[] {p, rest / two};
            }
        }
        return null;
    }

    /**
     * In YEAR y one GOOD is BOUGHT, that costs now[y], ahead[y] in the YEAR ahead of it and behind[y] in the one behind:
     * link old multiplies behind / now from YEAR 0 on, link new now / ahead from YEAR 1 on.
     */
    static YearBaskets rows(int[] ahead, int[] now, int[] behind) {
        YearBaskets x = new YearBaskets();
        for (int y = 0; y < 8; y++) {
            x.bought(0, y, y % 5, 1);
            x.price(y - 1, y % 5, ahead[y]);
            x.price(y, y % 5, now[y]);
            x.price(y + 1, y % 5, behind[y]);
        }
        return x;
    }

    /** link old is 10 to the 15 by 3 to the 7 from YEAR 0 to 7. */
    static YearBaskets tenToThe15() {
        return chain(160, 3, 160, 3, 160, 3, 125, 3, 125, 3, 125, 3, 125, 3);
    }

    /** In YEAR y one piece of GOOD y is BOUGHT: y is CHOSEN ahead of z, if GOOD z was not dearer in y. */
    static YearBaskets singles(int[]... prices) {
        YearBaskets x = new YearBaskets();
        for (int y = 0; y < prices.length; y++) {
            Due.prices(x, y, prices[y]);
            x.bought(0, y, y, 1);
        }
        return x;
    }

    /**
     * In each YEAR a pair of GOODS is BOUGHT; by its PRICES the pair of the next YEAR alone would have cost less:
     * one GOOD is in both, the other one of the next YEAR is somewhat cheaper, all else is dear.
     */
    static YearBaskets ofEight() {
        int[][] pairs = {{0, 1}, {1, 2}, {2, 3}, {3, 4}, {4, 0}, {4, 2}, {2, 0}, {0, 3}};
        YearBaskets x = new YearBaskets();
        for (int y = 0; y < 8; y++) {
            int[] own = pairs[y];
            int[] next = pairs[(y + 1) % 8];
            Due.prices(x, y, 99, 99, 99, 99, 99);
            for (int g : next) {
                x.price(y, g, 2);
            }
            for (int g : own) {
                x.bought(0, y, g, 1);
                x.price(y, g, g == next[0] || g == next[1] ? 1 : 3);
            }
        }
        return x;
    }
}
