/** Sentence by sentence: the texts of NUMBERS and their FAULTS, and promises 7 to 9. */
public final class EdgesOfTextsTest {
    private static final int NONE = YearBaskets.NONE, OUTSIDE = YearBaskets.OUTSIDE, FULL = YearBaskets.FULL;
    private static final int FINE = 0, CANNOT_STAND = 1, TOO_DEEP = 2;
    private static final String[] LEAVES = {"old", "new", "mid", "at3", "plain", "sums"};
    private static final String[] PAIRS = {"root", "mean", "least", "most"};
    private static final String[] ONES = {"back", "link", "both"};
    private static final Due DUE = new Due();

    private static void due(String call, long got, long want) {
        DUE.due(call, got, want);
    }

    /** A text on an object of its own: NUMBER 0 (kind FINE), or a FAULT at a place. */
    private static void reads(String text, int kind, int place) {
        YearBaskets x = new YearBaskets();
        String call = "number() of '" + text.replace('\0', '0') + "'";
        due(call, Due.numberOf(x, text), kind == FINE ? 0 : -10 - kind);
        due("fault() behind " + call, x.fault(), kind == FINE ? NONE : place);
        due("count(1) behind " + call, x.count(1), 0);
    }

    private static void fine(String text) {
        reads(text, FINE, NONE);
    }

    private static boolean isLetter(char v) {
        return v >= 'a' && v <= 'z';
    }

    private static void eightOfSixtyBytes() {
        DUE.says("NUMBERS (8 at most) are texts (60 bytes at most):");
        YearBaskets x = new YearBaskets();
        for (int n = 0; n < 8; n++) {
            String text = n % 2 == 0 ? "old" + " ".repeat(57) : " ".repeat(57) + "new";
            due("NUMBER " + n + " of 60 bytes", Due.numberOf(x, text), n);
            due("NUMBERS", x.count(0), n + 1);
        }
        due("a ninth one", Due.numberOf(x, "old"), FULL);
        due("NUMBERS", x.count(0), 8);
        due("the eighth is there", x.keeps(7, 0, 0), 1);
        YearBaskets z = new YearBaskets();
        Due.feedText(z, " ".repeat(60));
        due("60 bytes", z.count(1), 60);
        due("one more", z.feed(1, ' '), FULL);
        due("60 bytes still", z.count(1), 60);
        fine("root(mean(old,new),least(most(mid,plain),back link sums))   ");
    }

    /** The longest text that there can be is cut at 60 bytes: what is above does not come. */
    private static void sixtyBytesAndNoMore() {
        YearBaskets x = new YearBaskets();
        String text = "mean(at0,mean(at1,mean(at2,mean(at3,mean(at4,at5)))))";
        due("53 bytes", text.length(), 53);
        due("they are a NUMBER", Due.numberOf(x, text), 0);
        Due.feedText(x, text + " back");
        due("58 bytes", x.count(1), 58);
        due("three more", x.feed(3, Due.packed("old")), FULL);
        due("two more", x.feed(2, Due.packed("  ")), 60);
        due("number() of it", x.number(), -11);
        due("its fault()", x.fault(), 54);
    }

    private static void words() {
        DUE.says("E = 'old' | 'new' | 'mid' | 'at' Y | 'plain' | 'sums' | 'root' '(' E ',' E ')' | 'mean' '(' E ',' E ')' | "
                + "'least' '(' E ',' E ')' | 'most' '(' E ',' E ')' | 'back' E | 'link' E | 'both' E.");
        for (String leaf : LEAVES) {
            fine(leaf);
            reads(leaf + "(old)", CANNOT_STAND, leaf.length());
            reads(leaf + " old", CANNOT_STAND, leaf.length() + 1);
            for (String one : ONES) {
                fine(one + " " + leaf);
            }
            for (String pair : PAIRS) {
                fine(pair + "(" + leaf + "," + leaf + ")");
                reads(pair + " " + leaf, CANNOT_STAND, pair.length() + 1);
            }
        }
        for (String pair : PAIRS) {
            int n = pair.length();
            fine(pair + "(" + pair + "(old,new)," + pair + "(mid,sums))");
            reads(pair, CANNOT_STAND, n);
            reads(pair + "(", CANNOT_STAND, n + 1);
            reads(pair + "()", CANNOT_STAND, n + 1);
            reads(pair + "(,old)", CANNOT_STAND, n + 1);
            reads(pair + "(old", CANNOT_STAND, n + 4);
            reads(pair + "(old)", CANNOT_STAND, n + 4);
            reads(pair + "(old,", CANNOT_STAND, n + 5);
            reads(pair + "(old,)", CANNOT_STAND, n + 5);
            reads(pair + "(old,,new)", CANNOT_STAND, n + 5);
            reads(pair + "(old,new", CANNOT_STAND, n + 8);
            reads(pair + "(old,new,mid)", CANNOT_STAND, n + 8);
            reads(pair + "(old,new))", CANNOT_STAND, n + 9);
        }
        for (String one : ONES) {
            fine(one + " " + one + " old");
            fine(one + " root(" + one + " old," + one + " new)");
            reads(one, CANNOT_STAND, one.length());
            reads(one + "(old)", CANNOT_STAND, one.length());
            reads(one + ",old", CANNOT_STAND, one.length());
        }
        lettersInPlace();
        for (String none : new String[] {"olds", "ol", "ne", "news", "mi", "mids", "a", "ats", "plai", "plains", "sum", "sumss",
            "roo", "roots", "mea", "means", "leas", "leasts", "mos", "mosts", "bac", "backs", "lin", "links", "bot", "boths", "x"}) {
            reads(none, CANNOT_STAND, 0);
            reads("  " + none + " 7", CANNOT_STAND, 2);
        }
    }

    /** Each letter of each word is looked at: with another one the word cannot stand there. */
    private static void lettersInPlace() {
        String[] rest = {"", "", "", "3", "", "", "(old,new)", "(old,new)", "(old,new)", "(old,new)", " old", " old", " old"};
        String[] words = {"old", "new", "mid", "at", "plain", "sums", "root", "mean", "least", "most", "back", "link", "both"};
        for (int w = 0; w < words.length; w++) {
            fine(words[w] + rest[w]);
            for (int i = 0; i < words[w].length(); i++) {
                for (char other : new char[] {'a', 'm', 'z'}) {
                    if (words[w].charAt(i) != other) {
                        reads(words[w].substring(0, i) + other + words[w].substring(i + 1) + rest[w], CANNOT_STAND, 0);
                    }
                }
            }
        }
    }

    private static void years() {
        DUE.says("Y is a figure 0 .. 7 (a YEAR; another one cannot stand there);");
        for (char v = 0; v < 256; v++) {
            if (v >= '0' && v <= '7') {
                fine("at" + v);
                fine("at " + v);
            } else {
                reads("at" + v, CANNOT_STAND, isLetter(v) ? 0 : v == ' ' ? 3 : 2);
                reads("at " + v + "old", CANNOT_STAND, v == ' ' ? 4 : 3);
            }
        }
        YearBaskets x = new YearBaskets();
        for (int y = 0; y < 8; y++) {
            x.price(0, 0, 1);
            x.price(1, 0, 2);
            x.price(0, 1, 1);
            x.price(1, 1, 1);
            x.bought(0, y, 0, y);
            x.bought(0, y, 1, 8 - y);
            due("at " + y, Due.numberOf(x, "at " + y), y);
        }
        for (int y = 0; y < 8; y++) {
            due("what was BOUGHT in YEAR " + y, x.worth(y, 0, 0, 1, 0) * 8 / x.worth(y, 0, 0, 1, 1), 8 + y);
        }
    }

    private static void letters() {
        DUE.says("words are letters a .. z side by side;");
        for (char v = 0; v < 256; v++) {
            if (isLetter(v)) {
                reads("old" + v, CANNOT_STAND, 0);
                reads(v + "old", CANNOT_STAND, 0);
                reads("back" + v + "old", CANNOT_STAND, 0);
                reads("o" + v + "ld", CANNOT_STAND, 0);
            } else if (v != ' ') {
                reads("old" + v, CANNOT_STAND, 3);
                reads(v + "old", CANNOT_STAND, 0);
                reads("back" + v + "old", CANNOT_STAND, 4);
            }
        }
        reads("backold", CANNOT_STAND, 0);
        reads("oldnew", CANNOT_STAND, 0);
        reads("rootold", CANNOT_STAND, 0);
        reads("OLD", CANNOT_STAND, 0);
        reads("Old", CANNOT_STAND, 0);
        reads("olD", CANNOT_STAND, 0);
    }

    private static void blanks() {
        DUE.says("blanks (32) may stand anywhere but within words.");
        fine(" old");
        fine("old ");
        fine("   root  (  old  ,  at  3  )   ");
        fine("back both link old");
        fine("back   both   link   old");
        fine(" ".repeat(57) + "mid");
        fine("mid" + " ".repeat(57));
        fine("root(at0,at7)");
        reads("o ld", CANNOT_STAND, 0);
        reads("ol d", CANNOT_STAND, 0);
        reads("ro ot(old,new)", CANNOT_STAND, 0);
        reads("a t 3", CANNOT_STAND, 0);
        reads("at 3 4", CANNOT_STAND, 5);
        reads("", CANNOT_STAND, 0);
        reads(" ", CANNOT_STAND, 1);
        reads(" ".repeat(60), CANNOT_STAND, 60);
        for (char v : new char[] {0, 9, 10, 13, 31, 33, 95, 127, 128, 160, 255}) {
            reads(v + "old", CANNOT_STAND, 0);
            reads("old" + v, CANNOT_STAND, 3);
            reads("at" + v + "3", CANNOT_STAND, 2);
        }
    }

    private static void firstFaults() {
        DUE.says("FAULTS, at the first byte that has one (the end at the text's length), of these the least:");
        reads("odl new ) 8", CANNOT_STAND, 0);
        reads("root(odl,wen)", CANNOT_STAND, 5);
        reads("root(old,wen)", CANNOT_STAND, 9);
        reads("root(old;new", CANNOT_STAND, 8);
        reads("", CANNOT_STAND, 0);
        reads("back", CANNOT_STAND, 4);
        reads("back  ", CANNOT_STAND, 6);
        reads("root(old,at 7" + " ".repeat(47), CANNOT_STAND, 60);
        reads("root(old,at" + " ".repeat(49), CANNOT_STAND, 60);
        reads("back ".repeat(8) + "old )", TOO_DEEP, 40);
        reads("back ".repeat(7) + "old )", CANNOT_STAND, 39);
        reads("root(at8," + "back ".repeat(8) + "old)", CANNOT_STAND, 7);
        reads("root(" + "back ".repeat(7) + "old,at8)", TOO_DEEP, 40);
        reads("back ".repeat(8) + "odl", CANNOT_STAND, 40);
        reads("back ".repeat(8) + "oldold", CANNOT_STAND, 40);
        reads("back ".repeat(8), CANNOT_STAND, 40);
        reads("back ".repeat(8) + "7", CANNOT_STAND, 40);
        reads("back ".repeat(8) + "at 9", TOO_DEEP, 40);
        reads("back ".repeat(8) + "root old", TOO_DEEP, 40);
    }

    private static void cannotStand() {
        DUE.says("1 it cannot stand there (a word that cannot: at its first letter; a figure behind a figure, too).");
        reads("at 12", CANNOT_STAND, 4);
        reads("at00", CANNOT_STAND, 3);
        reads("at 1 2", CANNOT_STAND, 5);
        reads("at1old", CANNOT_STAND, 3);
        reads("at1at1", CANNOT_STAND, 3);
        reads("old new", CANNOT_STAND, 4);
        reads("old   back", CANNOT_STAND, 6);
        reads("at old", CANNOT_STAND, 3);
        reads("root old", CANNOT_STAND, 5);
        reads("root(old new)", CANNOT_STAND, 9);
        reads("root(old,new)mid", CANNOT_STAND, 13);
        reads("root(old,new mid)", CANNOT_STAND, 13);
        reads("mean(at 77,old)", CANNOT_STAND, 9);
        reads("(old)", CANNOT_STAND, 0);
        reads(",", CANNOT_STAND, 0);
        reads(")", CANNOT_STAND, 0);
        reads("3", CANNOT_STAND, 0);
        reads("old3", CANNOT_STAND, 3);
        reads("back 3", CANNOT_STAND, 5);
    }

    private static void tooDeep() {
        DUE.says("2 a word at which E would be more than eight deep (at its first letter; the first one is one deep).");
        for (String one : ONES) {
            for (int deep = 1; deep <= 8; deep++) {
                fine((one + " ").repeat(deep - 1) + "old");
            }
            for (String leaf : LEAVES) {
                reads((one + " ").repeat(8) + leaf, TOO_DEEP, 40);
            }
            for (String pair : PAIRS) {
                fine((one + " ").repeat(6) + pair + "(old,at7)");
                reads((one + " ").repeat(7) + pair + "(old,at7)", TOO_DEEP, 36 + pair.length());
                reads((one + " ").repeat(7) + pair + "(  old,at7)", TOO_DEEP, 38 + pair.length());
                reads((one + " ").repeat(8) + pair + "(old,at7)", TOO_DEEP, 40);
                reads((one + " ").repeat(6) + pair + "(old," + one + " at7)", TOO_DEEP, 40 + pair.length());
                reads((one + " ").repeat(6) + pair + "(" + one + " old,at7)", TOO_DEEP, 36 + pair.length());
            }
            reads((one + " ").repeat(9) + "old", TOO_DEEP, 40);
        }
    }

    /** Pairs alone: seven of them, one in the other, with the leaves eight deep. */
    private static void tooDeepByPairs() {
        String seven = "most(".repeat(7) + "old";
        reads(seven, CANNOT_STAND, 38);
        reads("most(".repeat(8) + "old", TOO_DEEP, 40);
        fine("most(at0,most(at1,most(at2,most(at3,most(at4,at5)))))");
        fine("most(most(most(most(most(at0,at1),at2),at3),at4),at5)");
        fine("back back most(old,back back back most(old,new))");
        reads("back back most(old,back back back most(old,back new))", TOO_DEEP, 48);
        reads("back back most(old,back back back most(back old,new))", TOO_DEEP, 44);
    }

    private static void promise7() {
        DUE.says("The lowest n bytes (1 .. 8) of a long, the highest of these first, come behind THE TEXT: how many it has. OUTSIDE, FULL.");
        YearBaskets x = new YearBaskets();
        DUE.edges("feed(n, ..)", 1, 8, OUTSIDE, n -> x.feed(n, 0));
        due("bytes of 1 to 8 together", x.count(1), 36);
        for (int n = 1; n <= 8; n++) {
            YearBaskets z = new YearBaskets();
            long bytes = Due.packed("xxxxxxxx".substring(n) + "root(old".substring(0, n));
            due("feed(" + n + ", ..)", z.feed(n, bytes), n);
            for (char rest : "root(old,new)".substring(n).toCharArray()) {
                z.feed(1, rest);
            }
            due("feed(" + n + ", ..): the lowest bytes came in their order", z.number(), 0);
        }
        YearBaskets one = new YearBaskets();
        due("the lowest three", one.feed(3, Due.packed("plainold")), 3);
        due("the lowest one, behind", one.feed(1, Due.packed("plain o ")), 4);
        due("they are 'old '", one.number(), 0);
        due("eight, the highest first", one.feed(8, Due.packed("back old")), 8);
        due("they are 'back old'", one.number(), 1);
        due("a long below 0", one.feed(8, Long.MIN_VALUE), 8);
        due("its first byte is 128", one.number(), -11);
        due("it has the FAULT", one.fault(), 0);
        due("a byte of 255", one.feed(1, -1), 1);
        due("is not a blank", one.number(), -11);
        for (int room = 1; room <= 8; room++) {
            YearBaskets z = new YearBaskets();
            for (int i = room; i < 60; i++) {
                z.feed(1, ' ');
            }
            for (int n = room + 1; n <= 8; n++) {
                due("feed(" + n + ", ..) with room for " + room, z.feed(n, 0), FULL);
            }
            due("feed(" + room + ", ..), the last bytes", z.feed(room, 0), 60);
            due("feed(1, ..) with no room", z.feed(1, 0), FULL);
        }
    }

    private static void promise8() {
        DUE.says("THE TEXT (it is empty then, with a FAULT, too) becomes a NUMBER: its own; -10 less the number of its FAULT. FULL (THE TEXT stays).");
        YearBaskets x = new YearBaskets();
        due("the empty text", x.number(), -11);
        due("its own", Due.numberOf(x, "old"), 0);
        due("empty then", x.count(1), 0);
        due("FAULT 1", Due.numberOf(x, "old old"), -11);
        due("empty with a FAULT, too", x.count(1), 0);
        due("FAULT 2", Due.numberOf(x, "link ".repeat(9)), -12);
        due("empty with FAULT 2, too", x.count(1), 0);
        due("FAULT 1 behind some words", Due.numberOf(x, "mean(old,most(at 3,?"), -11);
        Due.prices(x, 0, 2, 3);
        Due.prices(x, 1, 4, 3);
        Due.basket(x, 0, 0, 5, 1);
        Due.basket(x, 0, 1, 2, 4);
        for (int n = 1; n < 8; n++) {
            due("its own", Due.numberOf(x, n == 1 ? "new" : "at " + n), n);
        }
        due("nothing is left of the text with the FAULT", x.worth(1, 0, 0, 1, 0), 5);
        due("FULL, the text empty", x.number(), FULL);
        Due.feedText(x, "sums");
        due("FULL", x.number(), FULL);
        due("FULL again", x.number(), FULL);
        due("THE TEXT stays", x.count(1), 4);
        Due.feedText(x, " odd");
        due("FULL with a FAULT, too", x.number(), FULL);
        due("more of THE TEXT stays", x.count(1), 8);
        due("NUMBERS stay", x.count(0), 8);
    }

    private static void promise9() {
        DUE.says("The place (from 0 on) of the byte that has the FAULT of the latest number() that was not FULL; NONE.");
        YearBaskets x = new YearBaskets();
        due("of none yet", x.fault(), NONE);
        due("a FAULT at 0", Due.numberOf(x, "?"), -11);
        due("place 0", x.fault(), 0);
        due("place 0, asked again", x.fault(), 0);
        Due.feedText(x, "old odd");
        due("feed does not change it", x.fault(), 0);
        x.number();
        due("place 4", x.fault(), 4);
        Due.numberOf(x, " ".repeat(60));
        due("the last place that there is", x.fault(), 60);
        due("no FAULT", Due.numberOf(x, "old"), 0);
        due("NONE", x.fault(), NONE);
        for (int n = 1; n < 7; n++) {
            Due.numberOf(x, "old");
        }
        Due.numberOf(x, "old x");
        due("place 4 again", x.fault(), 4);
        due("the eighth", Due.numberOf(x, "new"), 7);
        due("NONE again", x.fault(), NONE);
        due("FULL", Due.numberOf(x, "?"), FULL);
        due("NONE still: that was FULL", x.fault(), NONE);
    }

    public static void main(String[] args) {
        eightOfSixtyBytes();
        sixtyBytesAndNoMore();
        words();
        years();
        letters();
        blanks();
        firstFaults();
        cannotStand();
        tooDeep();
        tooDeepByPairs();
        promise7();
        promise8();
        promise9();
        DUE.end("EdgesOfTextsTest");
    }
}
