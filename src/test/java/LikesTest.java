/** Promises 16 to 18: chosen, ring, need. */
public final class LikesTest {
    private static final int NONE = YearBaskets.NONE, UNKNOWN = YearBaskets.UNKNOWN, OUTSIDE = YearBaskets.OUTSIDE;
    private static final int NOT = YearBaskets.NOT;
    private static final Due DUE = new Due();

    private static void due(String call, long got, long want) {
        DUE.due(call, got, want);
    }

    private static void chosen() {
        YearBaskets x = Worlds.singles(new int[] {5, 4, 5, 6, 0}, new int[] {9, 5, 4, 9, 9}, new int[] {0, 0, 0, 1, 1});
        due("chosen: surely", x.chosen(0, 0, 1), 2);
        due("chosen: as much", x.chosen(0, 0, 2), 1);
        due("chosen: ahead of itself", x.chosen(0, 0, 0), 1);
        due("chosen: not", x.chosen(0, 1, 0), 0);
        due("chosen: what is HOLED in its own YEAR", x.chosen(0, 2, 0), 0);
        due("chosen: HOLED ahead of itself", x.chosen(0, 2, 2), 0);
        due("chosen: ahead of a YEAR that is HOLED itself", x.chosen(0, 1, 2), 2);
        due("chosen: by nothing BOUGHT", x.chosen(0, 0, 3), 2);
        due("chosen: nothing ahead of nothing", x.chosen(1, 4, 5), 1);
        due("chosen: nothing ahead of something HOLED", x.chosen(0, 4, 0), 0);
        x.bought(0, 3, 4, 1);
        due("chosen: ahead of what is HOLED", x.chosen(0, 0, 3), 0);
        x.bought(1, 0, 1, 9);
        due("chosen: all together", x.chosen(3, 0, 1), 2);
        due("chosen(4, ..)", x.chosen(4, 0, 0), UNKNOWN);
        due("chosen(.., 8, 0)", x.chosen(0, 8, 0), UNKNOWN);
        due("chosen(.., 0, -1)", x.chosen(0, 0, -1), UNKNOWN);
    }

    private static void ringIs(YearBaskets x, int... wanted) {
        due("ring: how many YEARS", x.ring(0, NONE), wanted.length);
        for (int i = 0; i < wanted.length; i++) {
            due("ring: " + i, x.ring(0, i), wanted[i]);
        }
        due("ring: behind the last", x.ring(0, wanted.length), NONE);
        due("ring: far behind", x.ring(0, Integer.MAX_VALUE), NONE);
        due("ring: below NONE", x.ring(0, -2), NONE);
        due("ring: far below", x.ring(0, Integer.MIN_VALUE), NONE);
    }

    private static void ring() {
        ringIs(Worlds.singles(new int[] {5, 9, 9, 9, 9}, new int[] {4, 5, 9, 9, 9}, new int[] {4, 4, 5, 9, 9}));
        ringIs(Worlds.singles(new int[] {5, 4, 9}, new int[] {9, 5, 4}, new int[] {4, 9, 5}), 0, 1, 2);
        ringIs(Worlds.singles(new int[] {5, 9, 4}, new int[] {4, 5, 9}, new int[] {9, 4, 5}), 0, 2, 1);
        ringIs(Worlds.singles(new int[] {5, 5, 9}, new int[] {9, 5, 5}, new int[] {5, 9, 5}));
        ringIs(Worlds.singles(new int[] {5, 5, 9}, new int[] {9, 5, 4}, new int[] {5, 9, 5}), 0, 1, 2);
        // Two YEARS are fewer than the three from 0 on; and of two rings of two, 1 comes ahead of 3.
        ringIs(Worlds.singles(new int[] {5, 4, 9, 9, 9}, new int[] {9, 5, 4, 9, 9}, new int[] {4, 9, 5, 9, 9},
                new int[] {9, 9, 9, 5, 5}, new int[] {9, 9, 9, 4, 5}), 3, 4);
        ringIs(Worlds.singles(new int[] {5, 9, 9, 9, 9}, new int[] {9, 5, 9, 9, 4}, new int[] {9, 9, 5, 4, 9},
                new int[] {9, 9, 4, 5, 9}, new int[] {9, 5, 9, 9, 5}), 1, 4);
        // A ring of two that is not sure does not count; the sure one goes round by three.
        ringIs(Worlds.singles(new int[] {5, 5, 4}, new int[] {5, 5, 9}, new int[] {9, 5, 5}), 0, 2, 1);
        YearBaskets x = new YearBaskets();
        due("ring of nothing", x.ring(2, NONE), 0);
        due("ring(4, 0)", x.ring(4, 0), UNKNOWN);
        due("ring(-1, NONE)", x.ring(-1, NONE), UNKNOWN);
        ringIs(Worlds.ofEight(), 0, 1, 2, 3, 4, 5, 6, 7);
    }

    private static void need() {
        YearBaskets x = Worlds.singles(new int[] {1, 2}, new int[] {2, 1});
        Due.basket(x, 0, 0, 1, 3);
        Due.basket(x, 0, 1, 3, 1);
        due("need: upper", x.need(0, 0, 1, 0), 5);
        due("need: lower", x.need(0, 0, 1, 1), 7);
        due("need: YEAR", x.need(0, 0, 1, 2), 0);
        due("need: YEAR the other way", x.need(0, 1, 0, 2), 1);
        due("need in the same YEAR", x.need(0, 0, 0, 2), 1);
        due("need in the same YEAR: upper", x.need(0, 0, 0, 0), 5);
        due("need: nothing BOUGHT", x.need(1, 0, 1, 0), NOT);
        due("need: what 3", x.need(0, 0, 1, 3), OUTSIDE);
        due("need: what -1, OUTSIDE ahead of NOT", x.need(1, 0, 1, -1), OUTSIDE);
        due("need(4, ..)", x.need(4, 0, 1, 3), UNKNOWN);
        due("need, a 8", x.need(0, 8, 1, 0), UNKNOWN);
        due("need, b -1", x.need(0, 0, -1, 0), UNKNOWN);
        due("need: all HOLED", x.need(0, 0, 2, 0), NOT);
        x.price(0, 0, 0);
        due("need: COST (a, a) HOLED", x.need(0, 0, 1, 0), NOT);
    }

    private static void needStepByStep() {
        // 2 is CHOSEN ahead of 1, 1 ahead of 0; not 2 ahead of 0: two steps.
        YearBaskets x = Worlds.singles(new int[] {5, 9, 9}, new int[] {4, 5, 9}, new int[] {9, 4, 5}, new int[] {8, 6, 3});
        due("need: no straight step", x.chosen(0, 2, 0), 0);
        due("need: YEAR from two steps off", x.need(0, 0, 3, 2), 2);
        due("need: upper", x.need(0, 0, 3, 0), 3);
        due("need: lower", x.need(0, 0, 3, 1), 5);
        due("need: others do not come to 1", x.need(0, 1, 3, 2), 2);
        due("need: none comes to 2", x.need(0, 2, 3, 0), 3);
        x.price(3, 2, 0);
        due("need: what is HOLED is left out", x.need(0, 0, 3, 2), 1);
        x.price(3, 1, 8);
        due("need: of like ones the least YEAR", x.need(0, 0, 3, 2), 0);
        due("need: in least terms, upper", x.need(0, 0, 3, 0), 8);
        x.price(3, 0, 7);
        due("need: a itself costs least", x.need(0, 0, 3, 0), 7);
        // 1 is CHOSEN ahead of 0, not surely; COST (a, a) may be 1.
        x = Worlds.singles(new int[] {1, 9}, new int[] {5, 5}, new int[] {7, 6});
        due("need: by a step that is not sure", x.need(0, 0, 2, 2), 1);
        due("need: COST (a, a) 1", x.need(0, 0, 2, 0), 6);
        // All come to 7, YEAR 0 by seven steps.
        x = Worlds.ofEight();
        due("need: by seven steps", x.need(0, 7, 7, 2), 0);
        due("need: by seven steps, upper", x.need(0, 7, 7, 0), 3);
    }

    public static void main(String[] args) {
        chosen();
        ring();
        need();
        needStepByStep();
        DUE.end("LikesTest");
    }
}
