/** Promises 12 to 15: keeps, breach, clash, drift. */
public final class LawsTest {
    private static final int NONE = YearBaskets.NONE, UNKNOWN = YearBaskets.UNKNOWN, OUTSIDE = YearBaskets.OUTSIDE;
    private static final int NOT = YearBaskets.NOT, LARGE = YearBaskets.LARGE;
    private static final Due DUE = new Due();

    private static void due(String call, long got, long want) {
        DUE.due(call, got, want);
    }

    private static YearBaskets three() {
        YearBaskets x = new YearBaskets();
        Due.prices(x, 0, 2, 3);
        Due.prices(x, 1, 4, 3);
        Due.prices(x, 2, 2, 3);
        Due.basket(x, 0, 0, 5, 1);
        Due.basket(x, 0, 1, 2, 4);
        Due.basket(x, 0, 2, 1, 6);
        return x;
    }

    private static void kept(YearBaskets x, int n, String text, int... wanted) {
        for (int law = 0; law < 7; law++) {
            boolean broken = false;
            for (int one : wanted) {
                broken |= one == law;
            }
            due("keeps(" + text + ", " + law + ")", x.keeps(n, 0, law), broken ? 0 : 1);
        }
    }

    private static void breachIs(YearBaskets x, int n, int law, int a, int b, int t) {
        String call = "breach(" + n + ", 0, " + law + ", ";
        due(call + "0)", x.breach(n, 0, law, 0), a);
        due(call + "1)", x.breach(n, 0, law, 1), b);
        due(call + "2)", x.breach(n, 0, law, 2), t);
    }

    private static void keeps() {
        YearBaskets x = three();
        String[] texts = {"link old", "old", "root(old,new)", "sums", "plain", "link sums", "back old", "mean(old,new)"};
        int[][] broken = {{0, 1, 2, 6}, {1, 2}, {2}, {4}, {1, 2}, {4}, {1, 2}, {1, 2}};
        for (int n = 0; n < 8; n++) {
            kept(x, Due.numberOf(x, texts[n]), texts[n], broken[n]);
        }
        due("keeps of one who BOUGHT nothing", x.keeps(1, 1, 1), 1);
        due("keeps of all together", x.keeps(1, 3, 1), 0);
        due("keeps(8, ..)", x.keeps(8, 0, 0), UNKNOWN);
        due("keeps(-1, ..)", x.keeps(-1, 0, 0), UNKNOWN);
        due("keeps, who 4", x.keeps(0, 4, 0), UNKNOWN);
        due("keeps, law 7", x.keeps(0, 0, 7), UNKNOWN);
        due("keeps, law -1", x.keeps(0, 0, -1), UNKNOWN);
    }

    /** What was found once is looked for again, when PRICES or what was BOUGHT change. */
    private static void keepsAnew() {
        YearBaskets x = three();
        Due.numberOf(x, "old");
        due("old does not go back", x.keeps(0, 0, 1), 0);
        for (int g = 0; g < 2; g++) {
            for (int y = 1; y < 3; y++) {
                x.bought(0, y, g, g == 0 ? 5 : 1);
            }
        }
        due("old goes back, if the same is BOUGHT always", x.keeps(0, 0, 1), 1);
        due("and comes to the third", x.keeps(0, 0, 2), 1);
        x.bought(0, 2, 1, 2);
        due("not, if another basket comes", x.keeps(0, 0, 1), 0);
        Due.prices(x, 1, 2, 3);
        due("but with the same PRICES always", x.keeps(0, 0, 1), 1);
    }

    private static void breach() {
        YearBaskets x = three();
        for (String text : new String[] {"link old", "old", "sums", "root(old,new)", "least(old,root(old,new))"}) {
            Due.numberOf(x, text);
        }
        breachIs(x, 0, 0, 0, 2, NONE);
        breachIs(x, 0, 1, 0, 1, NONE);
        breachIs(x, 0, 2, 0, 2, 1);
        breachIs(x, 0, 6, 0, 2, NONE);
        breachIs(x, 1, 2, 0, 1, 2);
        breachIs(x, 2, 4, 0, 1, 0);
        breachIs(x, 3, 1, NONE, NONE, NONE);
        breachIs(x, 3, 3, NONE, NONE, NONE);
        // Between 0 and 1 it is a root both ways, between 0 and 2 it is 1, between 1 and 2 it is old both ways.
        breachIs(x, 4, 1, 1, 2, NONE);
        due("breach(5, ..)", x.breach(5, 0, 0, 0), UNKNOWN);
        due("breach, who -1", x.breach(0, -1, 0, 3), UNKNOWN);
        due("breach, law 7, what 3", x.breach(0, 0, 7, 3), UNKNOWN);
        due("breach, what 3", x.breach(0, 0, 0, 3), OUTSIDE);
        due("breach, what -1", x.breach(0, 0, 0, -1), OUTSIDE);
    }

    /** A GOOD that only b has is none when b has the PRICES of a; YEARS without PRICES are passed over. */
    private static void breachByHoles() {
        YearBaskets x = new YearBaskets();
        Due.prices(x, 3, 2, 3);
        Due.prices(x, 6, 4, 3, 5);
        Due.basket(x, 0, 3, 1, 1, 2);
        Due.numberOf(x, "old");
        Due.numberOf(x, "sums");
        Due.numberOf(x, "both sums");
        due("SAME with a GOOD that only b has", x.keeps(0, 0, 0), 1);
        breachIs(x, 1, 4, NONE, NONE, NONE);
        breachIs(x, 2, 4, 3, 6, 0);
        x.price(5, 2, 1);
        x.price(5, 0, 3);
        breachIs(x, 2, 4, 3, 6, 0);
        breachIs(x, 2, 2, 3, 5, 6);
    }

    /** SAME changes b alone: the PRICES of 0 are like those of 1, those of 2 are not. */
    private static void breachOfSame() {
        YearBaskets x = new YearBaskets();
        Due.prices(x, 0, 1, 2);
        Due.prices(x, 1, 3, 6);
        Due.prices(x, 2, 5, 4);
        Due.basket(x, 0, 0, 1, 0);
        Due.basket(x, 0, 1, 0, 1);
        Due.basket(x, 0, 2, 0, 1);
        Due.numberOf(x, "link old");
        due("SAME of link old, kept", x.keeps(0, 0, 0), 1);
        x.price(0, 1, 3);
        breachIs(x, 0, 0, 0, 2, NONE);
        x.price(0, 1, 2);
        due("SAME of link old, kept again", x.keeps(0, 0, 0), 1);
    }

    /** The last YEARS and the last GOOD are looked at, too. */
    private static void breachAtTheEnd() {
        YearBaskets x = new YearBaskets();
        for (int y = 5; y < 8; y++) {
            Due.prices(x, y, 0, 0, 0, 0, y == 6 ? 7 : 2);
            Due.basket(x, 0, y, 0, 0, 0, 0, 1);
        }
        for (String text : new String[] {"sums", "most(old,least(at5,sums))", "mean(old,back old)", "link new"}) {
            Due.numberOf(x, text);
        }
        breachIs(x, 0, 4, NONE, NONE, NONE);
        x.price(6, 3, 1);
        x.price(7, 3, 2);
        breachIs(x, 0, 4, 6, 7, 3);
        x.price(6, 2, 1);
        x.price(6, 3, 0);
        x.price(7, 3, 0);
        x.price(7, 2, 9);
        x.price(5, 2, 9);
        x.bought(0, 6, 2, 9);
        breachIs(x, 3, 2, 5, 7, 6);
        x = new YearBaskets();
        Due.prices(x, 5, 0, 0, 0, 1, 4);
        Due.prices(x, 6, 0, 0, 0, 1, 1);
        Due.prices(x, 7, 0, 0, 0, 3, 1);
        for (int y = 5; y < 8; y++) {
            x.bought(0, y, 3, y - 4);
            x.bought(0, y, 4, 1);
        }
        Due.numberOf(x, "old");
        Due.numberOf(x, "least(plain,sums)");
        breachIs(x, 0, 2, 5, 6, 7);
        Due.prices(x, 5, 0, 0, 0, 0, 0);
        // plain is 2, sums too: with GOOD 3 doubled sums is more, with GOOD 4 doubled it is less.
        breachIs(x, 1, 4, 6, 7, 4);
    }

    /** A PRICE that is missing in b is passed over by UP: with it the NUMBER would become less. */
    private static void upPassesOverWhatIsMissing() {
        YearBaskets x = new YearBaskets();
        Due.prices(x, 0, 2, 99);
        Due.prices(x, 1, 8, 0);
        Due.numberOf(x, "both sums");
        due("UP", x.keeps(0, 0, 5), 1);
        due("TWICE", x.keeps(0, 0, 3), 1);
    }

    /** link goes beyond the ratios: above the greatest, below the least. */
    private static void between() {
        YearBaskets x = new YearBaskets();
        for (int y = 0; y < 3; y++) {
            Due.prices(x, y, y == 1 ? 10 : 1, y == 1 ? 1 : 10, 4, y == 2 ? 5 : 0);
            Due.basket(x, 0, y, y == 1 ? 0 : 1, y == 1 ? 1 : 0);
        }
        for (String text : new String[] {"link old", "link new", "least(root(link old,at1),link old)"}) {
            Due.numberOf(x, text);
        }
        breachIs(x, 0, 6, 0, 2, NONE);
        breachIs(x, 1, 6, 0, 2, NONE);
        // A ratio as far as the link goes keeps the LAW, from 0 to 2; from 2 to 0 it does not.
        x.price(0, 0, 2);
        x.price(2, 0, 99);
        x.price(2, 2, 99);
        x.price(0, 2, 1);
        breachIs(x, 0, 6, 2, 0, NONE);
        breachIs(x, 2, 6, 2, 0, NONE);
        breachIs(x, 1, 6, 0, 2, NONE);
    }

    private static void clash() {
        YearBaskets x = three();
        due("clash without NUMBERS", x.clash(0), 0);
        Due.numberOf(x, "old");
        due("clash of old", x.clash(0), 2);
        due("clash of one who BOUGHT nothing", x.clash(1), NONE);
        Due.numberOf(x, "sums");
        due("clash of old, sums", x.clash(0), 2 + 16);
        Due.numberOf(x, "root(old,new)");
        due("clash of old, sums, root(old,new)", x.clash(0), 4 + 16);
        due("clash of all together", x.clash(3), 4 + 16);
        YearBaskets z = three();
        Due.numberOf(z, "link old");
        due("clash of link old", z.clash(0), 1);
        Due.numberOf(x, "at 0");
        due("clash with one that keeps all", x.clash(0), NONE);
        due("clash(4)", x.clash(4), UNKNOWN);
        due("clash(-1)", x.clash(-1), UNKNOWN);
    }

    private static void drift() {
        YearBaskets x = three();
        for (String text : new String[] {"old", "link old", "root(old,new)", "least(old,root(old,new))"}) {
            Due.numberOf(x, text);
        }
        due("drift of old: upper", x.drift(0, 0, 0, 2, 0), 92);
        due("drift of old: lower", x.drift(0, 0, 0, 2, 1), 65);
        due("drift of old backwards: upper", x.drift(0, 0, 2, 0, 0), 22);
        due("drift of old backwards: lower", x.drift(0, 0, 2, 0, 1), 25);
        due("drift of one step", x.drift(0, 0, 0, 1, 0), 1);
        due("drift of no step", x.drift(0, 0, 1, 1, 1), 1);
        due("drift of link old", x.drift(1, 0, 0, 2, 0), 1);
        due("drift of a root", x.drift(2, 0, 0, 2, 0), NOT);
        due("drift of a root by no step", x.drift(2, 0, 0, 0, 0), NOT);
        due("drift over a YEAR without PRICES", x.drift(0, 0, 0, 4, 0), NOT);
        due("drift of one who BOUGHT nothing", x.drift(0, 1, 0, 0, 0), NOT);
        due("drift(4, ..)", x.drift(4, 0, 0, 1, 0), UNKNOWN);
        due("drift, who 4", x.drift(0, 4, 0, 1, 0), UNKNOWN);
        due("drift, b 8, what 2", x.drift(0, 0, 0, 8, 2), UNKNOWN);
        due("drift, what 2", x.drift(0, 0, 0, 1, 2), OUTSIDE);
        due("drift, what -1, OUTSIDE ahead of NOT", x.drift(2, 0, 0, 1, -1), OUTSIDE);
    }

    /** Eight deep, and link of it by drift one deeper. */
    private static void driftOfDeepOnes() {
        YearBaskets x = three();
        String[] texts = {"back back back back back back mean(old,old)", "both both both both both both link old",
            "mean(old,mean(old,mean(old,mean(old,mean(old,old)))))", "least(back back back back back back old,mid)"};
        for (String text : texts) {
            Due.numberOf(x, text);
        }
        due("worth of eight deep", x.worth(0, 0, 0, 2, 0), 1);
        due("drift of eight deep: upper", x.drift(0, 0, 0, 2, 0), 92);
        due("drift of eight deep: lower", x.drift(0, 0, 0, 2, 1), 65);
        due("worth of link at the bottom", x.worth(1, 0, 0, 2, 0), 92);
        due("drift of link at the bottom", x.drift(1, 0, 0, 2, 0), 1);
        due("drift of many means", x.drift(2, 0, 0, 2, 0), 92);
        due("worth of a pair far apart", x.worth(3, 0, 0, 1, 0), 43);
    }

    /** link is 99 to the 6, WORTH by itself 17 / 1657: the quotient alone is LARGE. */
    private static void driftThatIsLarge() {
        YearBaskets x = new YearBaskets();
        Due.prices(x, 0, 0, 0, 0, 97, 98);
        Due.prices(x, 1, 1, 0, 0, 97, 98);
        for (int y = 2; y < 8; y++) {
            Due.prices(x, y, y % 2 == 0 ? 99 : 1, y % 2 == 0 ? 1 : 99);
        }
        Due.prices(x, 7, 1, 99, 0, 1, 1);
        Due.basket(x, 0, 0, 0, 0, 0, 9, 8);
        for (int y = 1; y < 7; y++) {
            x.bought(0, y, y % 2 == 0 ? 1 : 0, 1);
        }
        Due.numberOf(x, "old");
        Due.numberOf(x, "link old");
        due("link old", x.worth(1, 0, 0, 7, 0), 941480149401L);
        due("old: lower", x.worth(0, 0, 0, 7, 1), 1657);
        due("drift with a quotient that is LARGE", x.drift(0, 0, 0, 7, 0), LARGE);
        Due.basket(x, 0, 0, 0, 0, 0, 1, 0);
        due("drift with a quotient that is not", x.drift(0, 0, 0, 7, 0), 941480149401L * 97);
        due("link first: HOLED on the way", x.drift(0, 0, 7, 0, 0), NOT);
    }

    public static void main(String[] args) {
        keeps();
        keepsAnew();
        breach();
        breachByHoles();
        breachOfSame();
        breachAtTheEnd();
        upPassesOverWhatIsMissing();
        between();
        clash();
        drift();
        driftOfDeepOnes();
        driftThatIsLarge();
        DUE.end("LawsTest");
    }
}
