import java.util.Map;
import java.util.Random;
import java.util.TreeMap;

/**
 * Runs of calls with a fixed seed, each answer held against the Model's. With arguments:
 * the first seed, how many runs; then it also tells how often which kind of answer came.
 */
public final class RandomRunsTest {
    private static final String[] LEAVES = {"old", "new", "mid", "at", "plain", "sums"};
    private static final String[] PAIRS = {"root", "mean", "least", "most"};
    private static final String[] ONES = {"back", "link", "both"};

    private final Random random;
    private final YearBaskets x = new YearBaskets();
    private final Model model = new Model();
    private final Due due;
    private final long seed;
    private final Map<String, Integer> seen;
    private final StringBuilder told = new StringBuilder();
    /** Nothing missing, high PRICES and links of pairs: what comes of them is often LARGE. */
    private final boolean steep;
    private boolean failed = false;
    private int calls = 0;

    private RandomRunsTest(long seed, Due due, Map<String, Integer> seen) {
        this.seed = seed;
        this.random = new Random(seed);
        this.steep = random.nextInt(5) == 0;
        this.due = due;
        this.seen = seen;
    }

    private interface Asked {
        long answer();
    }

    private static long modelled(Asked asked) {
        try {
            return asked.answer();
        } catch (Model.Refused refused) {
            return refused.code;
        }
    }

    private void same(String call, long got, Asked asked) {
        long want = modelled(asked);
        calls++;
        told.append(call).append(" = ").append(got).append('\n');
        String kind = call.substring(0, call.indexOf('(')) + (got <= -1001 ? " " + got : got == -1 ? " NONE" : " answer");
        seen.merge(kind, 1, Integer::sum);
        due.due("seed " + seed + ", call " + calls + ": " + call, got, want);
        failed |= got != want;
    }

    private int pick(int many) {
        return random.nextInt(many);
    }

    /** Mostly one that there is; now and then beside it. */
    private int near(int many) {
        return pick(60) == 0 ? pick(2) == 0 ? -1 - pick(3) : many + pick(3) : pick(Math.max(many, 1));
    }

    private String blanks() {
        return pick(12) == 0 ? "  ".substring(pick(2)) : "";
    }

    private String term(int room) {
        int kind = room <= 1 ? 0 : steep ? 2 + pick(6) : pick(10);
        if (kind < 4) {
            String leaf = LEAVES[pick(6)];
            return blanks() + leaf + blanks() + (leaf.equals("at") ? "" + pick(8) : "");
        }
        if (kind < 7) {
            String pair = PAIRS[pick(4)];
            return blanks() + pair + blanks() + "(" + term(room - 1) + blanks() + "," + term(room - 1) + blanks() + ")";
        }
        return blanks() + ONES[pick(3)] + " " + term(room - 1);
    }

    private String spoilt(String text) {
        StringBuilder b = new StringBuilder(text);
        String signs = "  (),01789abcklotwyzAZ@[`{\t\u0000\u00ff";
        for (int i = 0; i <= pick(2); i++) {
            int at = pick(b.length() + 1);
            int way = pick(3);
            if (way == 0 || at == b.length()) {
                b.insert(at, signs.charAt(pick(signs.length())));
            } else if (way == 1) {
                b.deleteCharAt(at);
            } else {
                b.setCharAt(at, signs.charAt(pick(signs.length())));
            }
        }
        return b.toString();
    }

    private void feed(String text) {
        for (int from = 0; from < text.length();) {
            int n = Math.min(1 + pick(8), text.length() - from);
            long bytes = Due.packed(text.substring(from, from + n)) | (n < 8 && pick(3) == 0 ? random.nextLong() << 8 * n : 0);
            int many = n;
            same("feed(" + n + ", " + bytes + ")", x.feed(n, bytes), () -> model.feed(many, bytes));
            from += n;
        }
    }

    private void makeNumber() {
        String text = steep ? "link " + term(1 + pick(4)) : term(1 + pick(pick(4) == 0 ? 10 : 4));
        if (pick(8) == 0) {
            text = spoilt(text);
        }
        if (text.length() + x.count(1) > 60 && pick(9) != 0) {
            return;
        }
        feed(text);
        same("number(" + text + ")", x.number(), model::number);
        same("fault()", x.fault(), model::fault);
    }

    private void setPrice(int y, int g, int v) {
        same("price(" + y + ", " + g + ", " + v + ")", x.price(y, g, v), () -> model.price(y, g, v));
    }

    private void setBought(int p, int y, int g, int v) {
        same("bought(" + p + ", " + y + ", " + g + ", " + v + ")", x.bought(p, y, g, v), () -> model.bought(p, y, g, v));
    }

    private void fill() {
        int least = steep ? 50 : 0;
        int highest = steep ? 49 : new int[] {2, 4, 9, 30, 99}[pick(5)];
        int most = steep ? 9 : new int[] {1, 2, 4, 9}[pick(4)];
        boolean dense = steep || pick(2) == 0;
        int years = dense || pick(2) == 0 ? 8 : 2 + pick(6);
        int goods = 1 + pick(5);
        int holes = dense ? 1000 : new int[] {1000, 12, 4}[pick(3)];
        int bare = dense ? 1000 : new int[] {1000, 6, 2}[pick(3)];
        for (int y = 0; y < years; y++) {
            for (int g = 0; g < goods; g++) {
                if (pick(holes) != 0) {
                    setPrice(y, g, least + 1 + pick(highest));
                }
                for (int p = 0; p < 3; p++) {
                    if (pick(bare) != 0) {
                        setBought(p, y, g, pick(most + 1));
                    }
                }
            }
        }
    }

    private void callBooks() {
        int a = near(8);
        int b = near(8);
        int g = near(5);
        int who = near(4);
        switch (pick(6)) {
            case 0: case 1:
                setPrice(a, g, pick(8) == 0 ? 0 : near(100));
                break;
            case 2:
                setBought(near(3), a, g, near(10));
                break;
            case 3:
                same("cost(" + who + ", " + a + ", " + b + ")", x.cost(who, a, b), () -> model.cost(who, a, b));
                break;
            case 4:
                int what = near(3);
                same("goods(" + a + ", " + b + ", " + what + ")", x.goods(a, b, what), () -> model.goods(a, b, what));
                break;
            default:
                int of = near(5);
                same("count(" + of + ")", x.count(of), () -> model.count(of));
                break;
        }
    }

    private void callNumbers() {
        int made = model.numbers.size();
        int n = near(made);
        int m = near(made);
        int a = near(8);
        int b = near(8);
        int who = near(4);
        int what = near(3);
        switch (pick(4)) {
            case 0: case 1:
                same("worth(" + n + ", " + who + ", " + a + ", " + b + ", " + what + ")",
                        x.worth(n, who, a, b, what), () -> model.worth(n, who, a, b, what));
                break;
            case 2:
                same("order(" + n + ", " + m + ", " + who + ", " + a + ", " + b + ")",
                        x.order(n, m, who, a, b), () -> model.order(n, m, who, a, b));
                break;
            default:
                makeNumber();
                break;
        }
    }

    private void callLaws() {
        int n = near(model.numbers.size());
        int who = near(4);
        int law = near(7);
        int what = near(3);
        int a = near(8);
        int b = near(8);
        switch (pick(10)) {
            case 0: case 1:
                same("keeps(" + n + ", " + who + ", " + law + ")", x.keeps(n, who, law), () -> model.keeps(n, who, law));
                break;
            case 2: case 3: case 4:
                same("breach(" + n + ", " + who + ", " + law + ", " + what + ")",
                        x.breach(n, who, law, what), () -> model.breach(n, who, law, what));
                break;
            case 5:
                if (pick(6) == 0) {
                    same("clash(" + who + ")", x.clash(who), () -> model.clash(who));
                }
                break;
            default:
                int one = near(2);
                same("drift(" + n + ", " + who + ", " + a + ", " + b + ", " + one + ")",
                        x.drift(n, who, a, b, one), () -> model.drift(n, who, a, b, one));
                break;
        }
    }

    private void callLikes() {
        int who = near(4);
        int a = near(8);
        int b = near(8);
        int what = near(3);
        int i = pick(10) - 2;
        switch (pick(4)) {
            case 0:
                same("chosen(" + who + ", " + a + ", " + b + ")", x.chosen(who, a, b), () -> model.chosen(who, a, b));
                break;
            case 1:
                same("ring(" + who + ", " + i + ")", x.ring(who, i), () -> model.ring(who, i));
                break;
            default:
                same("need(" + who + ", " + a + ", " + b + ", " + what + ")",
                        x.need(who, a, b, what), () -> model.need(who, a, b, what));
                break;
        }
    }

    private void callParts() {
        int n = near(model.numbers.size());
        int who = near(4);
        int a = near(8);
        int b = near(8);
        int y = near(8);
        int g = near(5);
        int what = near(2);
        switch (pick(4)) {
            case 0:
                same("part(" + who + ", " + g + ", " + a + ", " + b + ", " + what + ")",
                        x.part(who, g, a, b, what), () -> model.part(who, g, a, b, what));
                break;
            case 1:
                int w = pick(30) == 0 ? 99999 + pick(2) : pick(pick(2) == 0 ? 100 : 100000);
                same("wage(" + n + ", " + who + ", " + w + ", " + a + ", " + b + ")",
                        x.wage(n, who, w, a, b), () -> model.wage(n, who, w, a, b));
                break;
            case 2:
                same("dearest(" + n + ", " + a + ", " + b + ")", x.dearest(n, a, b), () -> model.dearest(n, a, b));
                break;
            default:
                int u = pick(30) == 0 ? 10000 * pick(2) : 1 + pick(pick(2) == 0 ? 20 : 9999);
                int l = pick(30) == 0 ? 10000 * pick(2) : 1 + pick(pick(2) == 0 ? 20 : 9999);
                same("turn(" + n + ", " + who + ", " + a + ", " + b + ", " + y + ", " + g + ", " + u + ", " + l + ")",
                        x.turn(n, who, a, b, y, g, u, l), () -> model.turn(n, who, a, b, y, g, u, l));
                break;
        }
    }

    private void run() {
        fill();
        int numbers = 1 + pick(8);
        for (int i = 0; i < numbers; i++) {
            makeNumber();
        }
        while (calls < 450 && !failed) {
            int kind = pick(20);
            if (kind < 2) {
                callBooks();
            } else if (kind < 7) {
                callNumbers();
            } else if (kind < 10) {
                callLaws();
            } else if (kind < 14) {
                callLikes();
            } else {
                callParts();
            }
        }
        if (failed) {
            System.out.println("the run up to the wrong answer:\n" + told);
        }
    }

    public static void main(String[] args) {
        long from = args.length > 0 ? Long.parseLong(args[0]) : 1;
        long runs = args.length > 1 ? Long.parseLong(args[1]) : 150;
        Due due = new Due();
        Map<String, Integer> seen = new TreeMap<>();
        for (long seed = from; seed < from + runs; seed++) {
            RandomRunsTest one = new RandomRunsTest(seed, due, seen);
            one.run();
            if (one.failed) {
                break;
            }
        }
        if (args.length > 0) {
            seen.forEach((kind, times) -> System.out.println(kind + ": " + times));
        }
        due.end("RandomRunsTest");
    }
}
