/** Sentence by sentence: LIKES, THE RING, NEED, and promises 16 to 18. */
public final class EdgesOfLikesTest {
    private static final int NONE = YearBaskets.NONE, UNKNOWN = YearBaskets.UNKNOWN, OUTSIDE = YearBaskets.OUTSIDE;
    private static final int NOT = YearBaskets.NOT;
    private static final Due DUE = new Due();

    private static void due(String call, long got, long want) {
        DUE.due(call, got, want);
    }

    private static int[] row(int... prices) {
        return prices;
    }

    private static void chosenAhead() {
        DUE.says("LIKES of WHO: a YEAR y is CHOSEN ahead of z, if both are WHOLE (nothing in COST (y, y), COST (y, z) HOLED) "
                + "and COST (y, y) is COST (y, z) or more; surely, if it is more.");
        YearBaskets x = new YearBaskets();
        Due.prices(x, 0, 5, 5);
        Due.prices(x, 1, 1, 9);
        x.bought(0, 0, 0, 5);
        for (int v = 0; v < 10; v++) {
            x.bought(0, 1, 1, v);
            due("5 for 5 times 5, " + v + " for as much", x.chosen(0, 0, 1), v < 5 ? 2 : v == 5 ? 1 : 0);
        }
        due("the other way: 81 ahead of 5", x.chosen(0, 1, 0), 2);
        due("ahead of itself: as much", x.chosen(0, 1, 1), 1);
        due("nothing ahead of nothing", x.chosen(0, 3, 4), 1);
        due("nothing, that is HOLED in no way, ahead of something HOLED", x.chosen(0, 3, 0), 0);
        due("something ahead of nothing", x.chosen(0, 0, 3), 2);
        x.bought(0, 0, 4, 1);
        due("COST (y, y) HOLED", x.chosen(0, 0, 3), 0);
        due("COST (y, y) HOLED, ahead of itself", x.chosen(0, 0, 0), 0);
        due("COST (y, z) HOLED", x.chosen(0, 1, 0), 0);
        x.price(1, 4, 1);
        due("COST (y, z) not HOLED, COST (z, z) is", x.chosen(0, 1, 0), 2);
        x.price(0, 4, 1);
        due("COST (y, y) not HOLED", x.chosen(0, 0, 3), 2);
        due("PERSON 1 BOUGHT nothing", x.chosen(1, 0, 1), 1);
        x.bought(1, 1, 0, 3);
        due("PERSON 1: nothing ahead of something", x.chosen(1, 0, 1), 0);
        x.bought(2, 0, 0, 9);
        due("PERSON 2", x.chosen(2, 0, 1), 2);
        due("all together: 14 times 5 and 1, ahead of 3 times 5 and 9 times 5", x.chosen(3, 0, 1), 2);
        due("PERSON 0 as before", x.chosen(0, 0, 1), 0);
    }

    private static void ringIs(YearBaskets x, int... wanted) {
        due("ring: how many YEARS", x.ring(0, NONE), wanted.length);
        for (int i = 0; i < wanted.length; i++) {
            due("ring: " + i, x.ring(0, i), wanted[i]);
        }
        due("ring: behind the last", x.ring(0, wanted.length), NONE);
    }

    private static void rings() {
        DUE.says("One set of likes explains all, if there is no RING: YEARS y0, y1, .., each CHOSEN ahead of the next, the last ahead of y0, "
                + "some of them surely.");
        ringIs(new YearBaskets());
        ringIs(Worlds.singles(row(5, 9), row(9, 5)));
        ringIs(Worlds.singles(row(5, 4), row(9, 5)));
        // Both CHOSEN ahead of the other, none surely; one of both surely, at either place.
        ringIs(Worlds.singles(row(5, 5), row(5, 5)));
        ringIs(Worlds.singles(row(5, 4), row(5, 5)), 0, 1);
        ringIs(Worlds.singles(row(5, 5), row(4, 5)), 0, 1);
        ringIs(Worlds.singles(row(5, 4), row(4, 5)), 0, 1);
        // Three: none surely, one of them at each place; not closed.
        ringIs(Worlds.singles(row(5, 5, 9), row(9, 5, 5), row(5, 9, 5)));
        ringIs(Worlds.singles(row(5, 4, 9), row(9, 5, 5), row(5, 9, 5)), 0, 1, 2);
        ringIs(Worlds.singles(row(5, 5, 9), row(9, 5, 4), row(5, 9, 5)), 0, 1, 2);
        ringIs(Worlds.singles(row(5, 5, 9), row(9, 5, 5), row(4, 9, 5)), 0, 1, 2);
        ringIs(Worlds.singles(row(5, 4, 9), row(9, 5, 4), row(6, 9, 5)));
        // What is HOLED is not CHOSEN: the ring is broken.
        YearBaskets x = Worlds.singles(row(5, 4), row(4, 5));
        x.price(1, 0, 0);
        ringIs(x);
        x.price(1, 0, 5);
        ringIs(x, 0, 1);
        x.bought(0, 1, 3, 1);
        ringIs(x);
    }

    private static void fewest() {
        DUE.says("THE RING: of the fewest YEARS (2 at least, all unlike), of these the first row.");
        // A YEAR is CHOSEN ahead of itself, but one YEAR is no ring.
        ringIs(Worlds.singles(row(5)));
        // 0, 1, 2 go round, 3 and 4 by two: two are fewer, though they come later.
        ringIs(Worlds.singles(row(5, 4, 9, 9, 9), row(9, 5, 4, 9, 9), row(4, 9, 5, 9, 9), row(9, 9, 9, 5, 4), row(9, 9, 9, 4, 5)), 3, 4);
        // Of three rings of two, 0 and 4 come ahead of 1 and 2; without it 1, 2 ahead of 1, 3.
        ringIs(Worlds.singles(row(5, 9, 9, 9, 4), row(9, 5, 4, 4, 9), row(9, 4, 5, 9, 9), row(9, 4, 9, 5, 9), row(4, 9, 9, 9, 5)), 0, 4);
        ringIs(Worlds.singles(row(5, 9, 9, 9, 6), row(9, 5, 4, 4, 9), row(9, 4, 5, 9, 9), row(9, 4, 9, 5, 9), row(4, 9, 9, 9, 5)), 1, 2);
        // Of three YEARS: 0, 1, 2 ahead of 0, 2, 1; and the latter alone, told from its least YEAR on.
        ringIs(Worlds.singles(row(5, 9, 4), row(4, 5, 9), row(9, 4, 5)), 0, 2, 1);
        ringIs(Worlds.singles(row(5, 4, 9, 4), row(9, 5, 4, 9), row(4, 9, 5, 9), row(9, 4, 9, 5)), 0, 1, 2);
        ringIs(Worlds.singles(row(5, 9, 9, 9, 9), row(9, 5, 9, 4, 9), row(9, 9, 5, 9, 9), row(9, 9, 9, 5, 4), row(9, 4, 9, 9, 5)), 1, 3, 4);
        // Of four and five YEARS, and of all eight.
        ringIs(Worlds.singles(row(5, 9, 9, 4), row(4, 5, 9, 9), row(9, 4, 5, 9), row(9, 9, 4, 5)), 0, 3, 2, 1);
        ringIs(Worlds.singles(row(5, 9, 4, 9, 9), row(4, 5, 9, 9, 9), row(9, 9, 5, 9, 4), row(9, 4, 9, 5, 9), row(9, 9, 9, 4, 5)), 0, 2, 4, 3, 1);
        ringIs(Worlds.ofEight(), 0, 1, 2, 3, 4, 5, 6, 7);
        // The two that are not sure are no ring of two: the sure step goes round by three.
        ringIs(Worlds.singles(row(5, 5, 4), row(5, 5, 9), row(9, 5, 5)), 0, 2, 1);
        // The last YEARS alone: 6 and 7.
        YearBaskets x = new YearBaskets();
        Due.prices(x, 6, 5, 4);
        Due.prices(x, 7, 4, 5);
        x.bought(0, 6, 0, 1);
        x.bought(0, 7, 1, 1);
        ringIs(x, 6, 7);
    }

    private static void needIs(YearBaskets x, int a, int b, int upper, int lower, int year) {
        String call = "need from " + a + " to " + b;
        due(call + ": upper", x.need(0, a, b, 0), upper);
        due(call + ": lower", x.need(0, a, b, 1), lower);
        due(call + ": YEAR", x.need(0, a, b, 2), year);
    }

    private static void needs() {
        DUE.says("NEED from a to b: the least of COST (b, x) over YEARS x that are a or from which one comes to a by CHOSEN, step by step "
                + "(if not HOLED), / COST (a, a).");
        // None comes to 2; 2 comes to 1, 1 to 0; not 2 to 0 by one step.
        YearBaskets x = Worlds.singles(row(5, 9, 9), row(4, 5, 9), row(9, 4, 5), row(8, 6, 3));
        due("2 is not CHOSEN ahead of 0", x.chosen(0, 2, 0), 0);
        needIs(x, 2, 3, 3, 5, 2);
        needIs(x, 1, 3, 3, 5, 2);
        needIs(x, 0, 3, 3, 5, 2);
        needIs(x, 0, 0, 1, 1, 0);
        needIs(x, 0, 1, 4, 5, 0);
        // HOLED in b is left out; of a itself, too.
        x.price(3, 2, 0);
        needIs(x, 0, 3, 6, 5, 1);
        x.price(3, 1, 0);
        needIs(x, 0, 3, 8, 5, 0);
        due("from 1: all are HOLED", x.need(0, 1, 3, 0), NOT);
        x.price(3, 2, 99);
        x.price(3, 0, 0);
        needIs(x, 0, 3, 99, 5, 2);
        // A step that is not sure is one, too; a YEAR that is not CHOSEN is none, however cheap.
        needIs(Worlds.singles(row(5, 9), row(5, 5), row(9, 1)), 0, 2, 1, 5, 1);
        needIs(Worlds.singles(row(5, 9), row(6, 5), row(9, 1)), 0, 2, 9, 5, 0);
        // Seven steps, from 0 to 7.
        needIs(Worlds.ofEight(), 7, 7, 3, 4, 0);
        YearBaskets one = Worlds.singles(row(1, 9), row(9, 1), row(99, 1));
        needIs(one, 0, 2, 99, 1, 0);
        one.price(0, 0, 99);
        needIs(one, 0, 1, 1, 11, 0);
    }

    private static void promise16() {
        DUE.says("Whether YEAR y is CHOSEN ahead of z: 0 not, 1 so, 2 surely. UNKNOWN.");
        YearBaskets x = Worlds.singles(row(5, 4, 5, 6, 9), row(9, 5, 9, 9, 9));
        due("surely", x.chosen(0, 0, 1), 2);
        due("not", x.chosen(0, 1, 0), 0);
        x.bought(0, 2, 2, 1);
        due("so", x.chosen(0, 0, 2), 1);
        DUE.edges("chosen(who, ..)", 0, 3, UNKNOWN, who -> x.chosen(who, 0, 1));
        DUE.edges("chosen(.., y, ..)", 0, 7, UNKNOWN, y -> x.chosen(0, y, 1));
        DUE.edges("chosen(.., z)", 0, 7, UNKNOWN, z -> x.chosen(0, 0, z));
    }

    private static void promise17() {
        DUE.says("THE RING: i = NONE how many YEARS (0: one set of likes explains all), else the i-th; NONE (i below NONE, too). UNKNOWN.");
        YearBaskets none = new YearBaskets();
        due("no RING: how many", none.ring(0, NONE), 0);
        due("no RING: the first", none.ring(0, 0), NONE);
        due("no RING: below NONE", none.ring(0, -2), NONE);
        YearBaskets x = Worlds.ofEight();
        due("eight", x.ring(0, NONE), 8);
        for (int i = 0; i < 8; i++) {
            due("the i-th, from 0 on", x.ring(0, i), i);
        }
        for (int i : new int[] {8, 9, 1000, Integer.MAX_VALUE, -2, -3, -1001, Integer.MIN_VALUE}) {
            due("ring(0, " + i + ")", x.ring(0, i), NONE);
        }
        DUE.edges("ring(who, NONE)", 0, 3, UNKNOWN, who -> x.ring(who, NONE));
        due("of one who BOUGHT nothing", x.ring(1, NONE), 0);
        due("of all together", x.ring(3, NONE), 8);
        due("UNKNOWN, i below NONE", x.ring(4, -2), UNKNOWN);
    }

    private static void promise18() {
        DUE.says("NEED: what = 0 the upper, 1 the lower number, 2 the YEAR x (of like ones the least). UNKNOWN, OUTSIDE, "
                + "NOT: COST (a, a) is HOLED or 0, or all are HOLED.");
        YearBaskets x = Worlds.singles(row(5, 5, 5), row(5, 5, 5), row(5, 5, 5), row(8, 8, 6));
        needIs(x, 0, 3, 6, 5, 2);
        needIs(x, 2, 3, 6, 5, 2);
        x.price(3, 2, 8);
        needIs(x, 2, 3, 8, 5, 0);
        needIs(x, 0, 3, 8, 5, 0);
        x.price(3, 0, 9);
        needIs(x, 2, 3, 8, 5, 1);
        x.price(3, 1, 10);
        x.price(3, 2, 10);
        x.price(3, 0, 10);
        needIs(x, 1, 3, 2, 1, 0);
        DUE.edges("need(.., what)", 0, 2, OUTSIDE, what -> x.need(0, 0, 3, what));
        DUE.edges("need(who, ..)", 0, 3, UNKNOWN, who -> x.need(who, 0, 3, 0));
        for (int what = 0; what < 3; what++) {
            due("COST (a, a) is 0", x.need(1, 0, 3, what), NOT);
            due("COST (a, a) is 0, nothing BOUGHT in a", x.need(0, 3, 0, what), NOT);
            due("all are HOLED", x.need(0, 0, 7, what), NOT);
        }
        due("OUTSIDE ahead of NOT", x.need(1, 0, 3, 3), OUTSIDE);
        due("UNKNOWN ahead of OUTSIDE", x.need(4, 0, 3, 3), UNKNOWN);
        x.bought(0, 0, 4, 1);
        for (int what = 0; what < 3; what++) {
            due("COST (a, a) is HOLED", x.need(0, 0, 3, what), NOT);
        }
    }

    public static void main(String[] args) {
        chosenAhead();
        rings();
        fewest();
        needs();
        promise16();
        promise17();
        promise18();
        DUE.end("EdgesOfLikesTest");
    }
}
