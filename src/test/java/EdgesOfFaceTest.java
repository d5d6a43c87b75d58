import java.util.ArrayList;
import java.util.List;

/** What the document says of all calls: numbers, SETS, refusals and their order, 512 calls. */
public final class EdgesOfFaceTest {
    private static final int NONE = YearBaskets.NONE, UNKNOWN = YearBaskets.UNKNOWN, OUTSIDE = YearBaskets.OUTSIDE;
    private static final int NOT = YearBaskets.NOT, FULL = YearBaskets.FULL, LARGE = YearBaskets.LARGE;
    private static final Due DUE = new Due();

    private interface Call {
        long on(YearBaskets x);
    }

    private record Refusal(String call, long due, Call asked) { }

    private static final List<Refusal> REFUSALS = new ArrayList<>();

    private static void due(String call, long got, long want) {
        DUE.due(call, got, want);
    }

    private static void refused(String call, long due, Call asked) {
        REFUSALS.add(new Refusal(call, due, asked));
    }

    // ---- numbers and SETS

    private static void constants() {
        DUE.says("NONE is -1.");
        due("NONE", NONE, -1);
        due("UNKNOWN", UNKNOWN, -1001);
        due("OUTSIDE", OUTSIDE, -1002);
        due("NOT", NOT, -1003);
        due("FULL", FULL, -1004);
        due("LARGE", LARGE, -1005);
    }

    private static void numbersAreWhole() {
        DUE.says("All numbers are whole; / cuts towards 0; fractions are in least terms, the lower number above 0.");
        YearBaskets x = Worlds.two();
        int old = Due.numberOf(x, "old");
        due("wage: 7 times 23 / 13 is 12 and some", x.wage(old, 0, 7, 0, 1), 12);
        due("wage: 13 times 23 / 13", x.wage(old, 0, 13, 0, 1), 23);
        due("mid: 43 / 29, not 86 / 58 or so", x.worth(Due.numberOf(x, "mid"), 0, 0, 1, 0), 43);
        due("sums: 7 / 5", x.worth(Due.numberOf(x, "sums"), 0, 0, 1, 1), 5);
        due("old in the same YEAR: upper", x.worth(old, 0, 0, 0, 0), 1);
        due("old in the same YEAR: lower", x.worth(old, 0, 0, 0, 1), 1);
        due("need in least terms", x.need(0, 1, 1, 1), 1);
        due("part below 0: upper", x.part(0, 0, 1, 0, 0), -1);
        due("part below 0: the lower number is above 0", x.part(0, 0, 1, 0, 1), 5);
        due("part of 0: upper", x.part(0, 1, 0, 1, 0), 0);
        due("part of 0: lower", x.part(0, 1, 0, 1, 1), 1);
        due("drift: lower", x.drift(old, 0, 1, 1, 1), 1);
    }

    private static void numbersFromZero() {
        DUE.says("What has a number has it from 0 on, as it comes.");
        YearBaskets x = new YearBaskets();
        due("the first NUMBER", Due.numberOf(x, "old"), 0);
        due("one with a FAULT has none", Due.numberOf(x, "odl"), -11);
        due("the second NUMBER", Due.numberOf(x, "old"), 1);
        due("the same text again", Due.numberOf(x, "old"), 2);
        due("NUMBER 3 comes yet", x.keeps(3, 0, 0), UNKNOWN);
        due("NUMBER 2 is there", x.keeps(2, 0, 0), 1);
    }

    private static void sets() {
        DUE.says("A SET is a whole number, bit k for k.");
        for (int g = 0; g < 5; g++) {
            YearBaskets x = new YearBaskets();
            x.price(1, g, 1);
            due("goods: the SET of GOOD " + g, x.goods(0, 1, 0), 1 << g);
        }
        YearBaskets x = new YearBaskets();
        due("goods: the empty SET", x.goods(0, 1, 2), 0);
        Due.prices(x, 3, 1, 1, 1, 1, 1);
        due("goods: the SET of all", x.goods(0, 1, 2), 31);
    }

    // ---- refusals

    /** link old is LARGE from YEAR 0 to 7 for PERSON 0; PERSON 1 BOUGHT nothing; the text has 57 bytes. */
    private static YearBaskets world() {
        YearBaskets x = Worlds.chain(160, 3, 160, 3, 160, 3, 160, 3, 160, 3, 160, 3, 160, 3);
        for (String text : new String[] {"link old", "old", "at 7", "root(old,old)", "link root(old,old)"}) {
            Due.numberOf(x, text);
        }
        Due.feedText(x, "back ?");
        x.number();
        Due.feedText(x, " ".repeat(54) + "old");
        return x;
    }

    private static void booksRefused() {
        refused("price(8, ..)", UNKNOWN, x -> x.price(8, 0, 1));
        refused("price(-1, ..)", UNKNOWN, x -> x.price(-1, 0, 1));
        refused("price, g 5", UNKNOWN, x -> x.price(0, 5, 1));
        refused("price, g -1", UNKNOWN, x -> x.price(0, -1, 1));
        refused("price, v 100", OUTSIDE, x -> x.price(0, 0, 100));
        refused("price, v -1", OUTSIDE, x -> x.price(0, 0, -1));
        refused("price, UNKNOWN y ahead of OUTSIDE", UNKNOWN, x -> x.price(8, 0, 100));
        refused("price, UNKNOWN g ahead of OUTSIDE", UNKNOWN, x -> x.price(0, 5, -1));
        refused("bought(3, ..)", UNKNOWN, x -> x.bought(3, 0, 0, 1));
        refused("bought(-1, ..)", UNKNOWN, x -> x.bought(-1, 0, 0, 1));
        refused("bought, y 8", UNKNOWN, x -> x.bought(0, 8, 0, 1));
        refused("bought, g 5", UNKNOWN, x -> x.bought(0, 0, 5, 1));
        refused("bought, v 10", OUTSIDE, x -> x.bought(0, 0, 0, 10));
        refused("bought, v -1", OUTSIDE, x -> x.bought(0, 0, 0, -1));
        refused("bought, UNKNOWN p ahead of OUTSIDE", UNKNOWN, x -> x.bought(3, 0, 0, 10));
        refused("bought, UNKNOWN y ahead of OUTSIDE", UNKNOWN, x -> x.bought(0, -1, 0, 10));
        refused("bought, UNKNOWN g ahead of OUTSIDE", UNKNOWN, x -> x.bought(0, 0, 5, -1));
        refused("cost(4, ..)", UNKNOWN, x -> x.cost(4, 0, 0));
        refused("cost: HOLED", NOT, x -> x.cost(0, 0, 1));
        refused("cost, UNKNOWN who ahead of NOT", UNKNOWN, x -> x.cost(-1, 0, 1));
        refused("cost, UNKNOWN y ahead of NOT", UNKNOWN, x -> x.cost(0, 8, 1));
        refused("cost, UNKNOWN z ahead of NOT", UNKNOWN, x -> x.cost(0, 0, 8));
        refused("goods(8, ..)", UNKNOWN, x -> x.goods(8, 0, 0));
        refused("goods, b -1", UNKNOWN, x -> x.goods(0, -1, 2));
        refused("goods, what 3", OUTSIDE, x -> x.goods(0, 0, 3));
        refused("goods, UNKNOWN a ahead of OUTSIDE", UNKNOWN, x -> x.goods(-1, 0, 3));
        refused("goods, UNKNOWN b ahead of OUTSIDE", UNKNOWN, x -> x.goods(0, 8, -1));
        refused("count(5)", OUTSIDE, x -> x.count(5));
        refused("count(-1)", OUTSIDE, x -> x.count(-1));
        refused("feed(0, ..)", OUTSIDE, x -> x.feed(0, 65));
        refused("feed: 61 bytes", FULL, x -> x.feed(4, 65));
        refused("feed(9, ..), OUTSIDE ahead of FULL", OUTSIDE, x -> x.feed(9, 65));
    }

    private static void numbersRefused() {
        refused("worth(5, ..)", UNKNOWN, x -> x.worth(5, 0, 0, 1, 0));
        refused("worth, who 4", UNKNOWN, x -> x.worth(1, 4, 0, 1, 0));
        refused("worth, what 3", OUTSIDE, x -> x.worth(1, 0, 0, 1, 3));
        refused("worth: nothing BOUGHT", NOT, x -> x.worth(1, 1, 0, 1, 0));
        refused("worth: a product above 10 to the 15", LARGE, x -> x.worth(0, 0, 0, 7, 0));
        refused("worth, UNKNOWN n ahead of OUTSIDE", UNKNOWN, x -> x.worth(-1, 0, 0, 1, 3));
        refused("worth, UNKNOWN who ahead of NOT", UNKNOWN, x -> x.worth(2, -1, 0, 1, 0));
        refused("worth, UNKNOWN a ahead of OUTSIDE", UNKNOWN, x -> x.worth(0, 0, -1, 7, 3));
        refused("worth, UNKNOWN b ahead of OUTSIDE", UNKNOWN, x -> x.worth(0, 0, 0, 8, -1));
        refused("worth, OUTSIDE ahead of NOT", OUTSIDE, x -> x.worth(2, 0, 0, 1, -1));
        refused("worth, OUTSIDE ahead of LARGE", OUTSIDE, x -> x.worth(0, 0, 0, 7, 3));
        refused("order(5, ..)", UNKNOWN, x -> x.order(5, 1, 0, 0, 1));
        refused("order: NOT alone", NOT, x -> x.order(1, 2, 0, 0, 1));
        refused("order: LARGE alone", LARGE, x -> x.order(0, 0, 0, 0, 7));
        refused("order, UNKNOWN n ahead of NOT", UNKNOWN, x -> x.order(-1, 2, 0, 0, 1));
        refused("order, UNKNOWN m ahead of NOT", UNKNOWN, x -> x.order(2, 5, 0, 0, 1));
        refused("order, UNKNOWN who ahead of NOT", UNKNOWN, x -> x.order(2, 2, 4, 0, 1));
        refused("order, UNKNOWN a ahead of LARGE", UNKNOWN, x -> x.order(0, 0, 0, 8, 7));
        refused("order, UNKNOWN b ahead of NOT", UNKNOWN, x -> x.order(2, 2, 0, 0, -1));
        refused("wage(5, ..)", UNKNOWN, x -> x.wage(5, 0, 1, 0, 1));
        refused("wage, w 0", OUTSIDE, x -> x.wage(1, 0, 0, 0, 1));
        refused("wage, w 100000", OUTSIDE, x -> x.wage(1, 0, 100000, 0, 1));
        refused("wage by what is NOT", NOT, x -> x.wage(2, 0, 1, 0, 1));
        refused("wage by what is LARGE", LARGE, x -> x.wage(0, 0, 1, 0, 7));
        refused("wage, UNKNOWN n ahead of OUTSIDE", UNKNOWN, x -> x.wage(-1, 0, 0, 0, 1));
        refused("wage, UNKNOWN who ahead of OUTSIDE", UNKNOWN, x -> x.wage(1, 4, 0, 0, 1));
        refused("wage, UNKNOWN a ahead of OUTSIDE", UNKNOWN, x -> x.wage(1, 0, 0, 8, 1));
        refused("wage, UNKNOWN y ahead of NOT", UNKNOWN, x -> x.wage(2, 0, 1, 0, 8));
        refused("wage, OUTSIDE ahead of NOT", OUTSIDE, x -> x.wage(2, 0, 0, 0, 1));
        refused("wage, OUTSIDE ahead of LARGE", OUTSIDE, x -> x.wage(0, 0, 100000, 0, 7));
        refused("dearest(5, ..)", UNKNOWN, x -> x.dearest(5, 0, 1));
        refused("dearest, a 8", UNKNOWN, x -> x.dearest(2, 8, 1));
        refused("dearest, b -1", UNKNOWN, x -> x.dearest(0, 0, -1));
    }

    private static void lawsRefused() {
        refused("keeps(5, ..)", UNKNOWN, x -> x.keeps(5, 0, 0));
        refused("keeps, who 4", UNKNOWN, x -> x.keeps(1, 4, 0));
        refused("keeps, law 7", UNKNOWN, x -> x.keeps(1, 0, 7));
        refused("breach, law -1", UNKNOWN, x -> x.breach(1, 0, -1, 0));
        refused("breach, what 3", OUTSIDE, x -> x.breach(1, 0, 0, 3));
        refused("breach of what is kept, what -1", OUTSIDE, x -> x.breach(1, 0, 3, -1));
        refused("breach, UNKNOWN n ahead of OUTSIDE", UNKNOWN, x -> x.breach(5, 0, 0, 3));
        refused("breach, UNKNOWN who ahead of OUTSIDE", UNKNOWN, x -> x.breach(1, 4, 0, 3));
        refused("breach, UNKNOWN law ahead of OUTSIDE", UNKNOWN, x -> x.breach(1, 0, 7, 3));
        refused("clash(4)", UNKNOWN, x -> x.clash(4));
        refused("clash(-1)", UNKNOWN, x -> x.clash(-1));
        refused("drift(5, ..)", UNKNOWN, x -> x.drift(5, 0, 0, 1, 0));
        refused("drift, what 2", OUTSIDE, x -> x.drift(1, 0, 0, 1, 2));
        refused("drift of a root", NOT, x -> x.drift(3, 0, 0, 1, 0));
        refused("drift: link is LARGE", LARGE, x -> x.drift(1, 0, 0, 7, 0));
        refused("drift, UNKNOWN n ahead of OUTSIDE", UNKNOWN, x -> x.drift(-1, 0, 0, 1, 2));
        refused("drift, UNKNOWN who ahead of NOT", UNKNOWN, x -> x.drift(3, 4, 0, 1, 0));
        refused("drift, UNKNOWN a ahead of OUTSIDE", UNKNOWN, x -> x.drift(1, 0, 8, 1, -1));
        refused("drift, UNKNOWN b ahead of LARGE", UNKNOWN, x -> x.drift(1, 0, 0, 8, 0));
        refused("drift, OUTSIDE ahead of NOT", OUTSIDE, x -> x.drift(3, 0, 0, 1, 2));
        refused("drift, OUTSIDE ahead of LARGE", OUTSIDE, x -> x.drift(1, 0, 0, 7, -1));
    }

    private static void likesRefused() {
        refused("chosen(4, ..)", UNKNOWN, x -> x.chosen(4, 0, 0));
        refused("chosen, y 8", UNKNOWN, x -> x.chosen(0, 8, 0));
        refused("chosen, z -1", UNKNOWN, x -> x.chosen(0, 0, -1));
        refused("ring(4, NONE)", UNKNOWN, x -> x.ring(4, NONE));
        refused("ring(-1, -2)", UNKNOWN, x -> x.ring(-1, -2));
        refused("need(4, ..)", UNKNOWN, x -> x.need(4, 0, 1, 0));
        refused("need, what 3", OUTSIDE, x -> x.need(0, 0, 1, 3));
        refused("need: nothing BOUGHT", NOT, x -> x.need(1, 0, 1, 0));
        refused("need, UNKNOWN who ahead of OUTSIDE", UNKNOWN, x -> x.need(-1, 0, 1, 3));
        refused("need, UNKNOWN a ahead of NOT", UNKNOWN, x -> x.need(1, 8, 1, 0));
        refused("need, UNKNOWN b ahead of OUTSIDE", UNKNOWN, x -> x.need(1, 0, -1, -1));
        refused("need, OUTSIDE ahead of NOT", OUTSIDE, x -> x.need(1, 0, 1, -1));
        refused("part(4, ..)", UNKNOWN, x -> x.part(4, 0, 0, 1, 0));
        refused("part, what 2", OUTSIDE, x -> x.part(0, 0, 0, 1, 2));
        refused("part: nothing BOUGHT", NOT, x -> x.part(1, 0, 0, 1, 0));
        refused("part, UNKNOWN who ahead of OUTSIDE", UNKNOWN, x -> x.part(4, 0, 0, 1, 2));
        refused("part, UNKNOWN g ahead of NOT", UNKNOWN, x -> x.part(1, 5, 0, 1, 0));
        refused("part, UNKNOWN a ahead of OUTSIDE", UNKNOWN, x -> x.part(0, 0, 8, 1, -1));
        refused("part, UNKNOWN b ahead of NOT", UNKNOWN, x -> x.part(1, 0, 0, -1, 0));
        refused("part, OUTSIDE ahead of NOT", OUTSIDE, x -> x.part(1, 0, 0, 1, -1));
        refused("turn(5, ..)", UNKNOWN, x -> x.turn(5, 0, 0, 1, 0, 0, 1, 1));
        refused("turn, u 0", OUTSIDE, x -> x.turn(1, 0, 0, 1, 0, 0, 0, 1));
        refused("turn, l 10000", OUTSIDE, x -> x.turn(1, 0, 0, 1, 0, 0, 1, 10000));
        refused("turn, UNKNOWN n ahead of OUTSIDE", UNKNOWN, x -> x.turn(-1, 0, 0, 1, 0, 0, 0, 1));
        refused("turn, UNKNOWN who ahead of OUTSIDE", UNKNOWN, x -> x.turn(1, 4, 0, 1, 0, 0, 0, 1));
        refused("turn, UNKNOWN a ahead of OUTSIDE", UNKNOWN, x -> x.turn(1, 0, 8, 1, 0, 0, 1, 0));
        refused("turn, UNKNOWN b ahead of OUTSIDE", UNKNOWN, x -> x.turn(1, 0, 0, -1, 0, 0, 1, 0));
        refused("turn, UNKNOWN y ahead of OUTSIDE", UNKNOWN, x -> x.turn(1, 0, 0, 1, 8, 0, 10000, 1));
        refused("turn, UNKNOWN g ahead of OUTSIDE", UNKNOWN, x -> x.turn(1, 0, 0, 1, 0, 5, 1, 10000));
    }

    private static void refusalsInOrder() {
        DUE.says("REFUSALS, of several the first in this order: UNKNOWN (a YEAR, GOOD, PERSON, NUMBER, LAW that there is not), "
                + "OUTSIDE (another number out of its bounds), NOT (not now, as told), FULL, LARGE (as told).");
        YearBaskets x = world();
        for (Refusal one : REFUSALS) {
            due(one.call, one.asked.on(x), one.due);
        }
        YearBaskets eight = new YearBaskets();
        for (int n = 0; n < 8; n++) {
            Due.numberOf(eight, "old");
        }
        due("number(): a ninth", Due.numberOf(eight, "old"), FULL);
    }

    /** Much of what an object answers, all its PRICES and baskets at last: these are missing behind it. */
    private static String told(YearBaskets x) {
        StringBuilder b = new StringBuilder();
        for (int what = 0; what < 5; what++) {
            b.append(x.count(what)).append(' ');
        }
        b.append(x.fault()).append(' ').append(x.feed(3, Due.packed("   "))).append(' ').append(x.number());
        for (int n = 0; n < 6; n++) {
            b.append(' ').append(x.worth(n, 0, 0, 1, 0)).append(' ').append(x.worth(n, 0, 0, 3, 1)).append(' ');
            b.append(x.breach(n, 0, 1, 1)).append(' ').append(x.dearest(n, 0, 1)).append(' ').append(x.wage(n, 0, 9, 0, 1));
        }
        b.append(' ').append(x.clash(0)).append(' ').append(x.ring(0, NONE)).append(' ').append(x.need(0, 0, 1, 0));
        b.append(' ').append(x.goods(0, 1, 0)).append(' ').append(x.number()).append(' ').append(x.fault()).append('\n');
        for (int y = 0; y < 8; y++) {
            for (int g = 0; g < 5; g++) {
                b.append(x.price(y, g, 0)).append(' ');
                for (int p = 0; p < 3; p++) {
                    b.append(x.bought(p, y, g, 0)).append(' ');
                }
            }
        }
        return b.toString();
    }

    private static void refusedChangesNothing() {
        DUE.says("What is refused changes nothing.");
        String untouched = told(world());
        YearBaskets x = world();
        for (Refusal one : REFUSALS) {
            one.asked.on(x);
        }
        String after = told(x);
        due("as if nothing had been asked:\n" + after + "\nand " + untouched + "\n", after.equals(untouched) ? 1 : 0, 1);
        YearBaskets eight = new YearBaskets();
        for (int n = 0; n < 8; n++) {
            Due.numberOf(eight, n == 6 ? "odd" : "old");
        }
        Due.numberOf(eight, "new");
        Due.feedText(eight, "at8");
        due("number(): FULL", eight.number(), FULL);
        due("NUMBERS behind FULL", eight.count(0), 8);
        due("the text behind FULL", eight.count(1), 3);
        due("fault() behind FULL", eight.fault(), NONE);
    }

    // ---- 512 calls

    /** In turns of four calls: what has been worked out for the laws must be worked out anew each time. */
    private static void fiveHundredAndTwelveCalls() {
        YearBaskets x = new YearBaskets();
        String[] texts = {"old", "link old"};
        for (String text : texts) {
            Due.numberOf(x, text);
        }
        Due.prices(x, 0, 2, 3);
        Due.prices(x, 1, 4, 3);
        Due.prices(x, 2, 2, 3);
        Due.basket(x, 0, 0, 5, 1);
        Due.basket(x, 0, 1, 2, 4);
        Due.basket(x, 0, 2, 1, 6);
        int calls = 5 + 6 + 6;
        for (; calls + 4 < 512; calls += 4) {
            x.bought(0, 2, 1, 6);
            due("call " + calls + ": clash", x.clash(0), 2);
            due("call " + calls + ": breach", x.breach(1, 0, 0, 1), 2);
            due("call " + calls + ": worth", x.worth(1, 0, 0, 2, 0), 92);
        }
        for (; calls < 511; calls++) {
            x.count(0);
        }
        due("call 512: clash", x.clash(0), 2);
    }

    public static void main(String[] args) {
        constants();
        numbersAreWhole();
        numbersFromZero();
        sets();
        booksRefused();
        numbersRefused();
        lawsRefused();
        likesRefused();
        refusalsInOrder();
        refusedChangesNothing();
        DUE.says("An object is used for at most 512 calls after it has been made;");
        fiveHundredAndTwelveCalls();
        DUE.end("EdgesOfFaceTest");
    }
}
