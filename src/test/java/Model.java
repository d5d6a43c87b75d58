import java.math.BigInteger;
import java.util.ArrayList;
import java.util.List;

/**
 * The document told again in the slowest and plainest way, apart from the class: numbers without bound,
 * texts cut into pieces first, whole copies of the books, refusals thrown, nothing kept.
 */
final class Model {
    static final int NONE = -1, UNKNOWN = -1001, OUTSIDE = -1002, NOT = -1003, FULL = -1004, LARGE = -1005;
    static final BigInteger HIGHEST = BigInteger.TEN.pow(15);

    static final class Refused extends RuntimeException {
        private static final long serialVersionUID = 1L;
        final int code;

        Refused(int code) {
            super(null, null, false, false);
            this.code = code;
        }
    }

    record Value(BigInteger up, BigInteger low, boolean root) { }

    record Piece(String text, int place) { }

    record Term(String word, int year, Term one, Term two) { }

    record World(int[][] price, int[][][] bought) {
        World copy() {
            int[][] p = new int[8][];
            int[][][] q = new int[3][8][];
            for (int y = 0; y < 8; y++) {
                p[y] = price[y].clone();
                for (int i = 0; i < 3; i++) {
                    q[i][y] = bought[i][y].clone();
                }
            }
            return new World(p, q);
        }

        List<Integer> goods() {
            List<Integer> all = new ArrayList<>();
            for (int g = 0; g < 5; g++) {
                boolean there = false;
                for (int y = 0; y < 8; y++) {
                    there |= price[y][g] != 0;
                }
                if (there) {
                    all.add(g);
                }
            }
            return all;
        }

        int amount(int who, int y, int g) {
            return who < 3 ? bought[who][y][g] : bought[0][y][g] + bought[1][y][g] + bought[2][y][g];
        }

        int cost(List<Integer> goods, int who, int y, int z) {
            int sum = 0;
            for (int g : goods) {
                if (amount(who, z, g) > 0 && price[y][g] == 0) {
                    throw new Refused(NOT);
                }
                sum += price[y][g] * amount(who, z, g);
            }
            return sum;
        }
    }

    static final List<Integer> EVERY = List.of(0, 1, 2, 3, 4);

    World world = new World(new int[8][5], new int[3][8][5]);
    final List<Term> numbers = new ArrayList<>();
    String text = "";
    int faultPlace = NONE;

    private static void known(boolean... all) {
        for (boolean one : all) {
            if (!one) {
                throw new Refused(UNKNOWN);
            }
        }
    }

    private static void inside(int v, int low, int high) {
        if (v < low || v > high) {
            throw new Refused(OUTSIDE);
        }
    }

    private static boolean in(int v, int many) {
        return 0 <= v && v < many;
    }

    private boolean isNumber(int n) {
        return in(n, numbers.size());
    }

    int price(int y, int g, int v) {
        known(in(y, 8), in(g, 5));
        inside(v, 0, 99);
        int was = world.price[y][g];
        world.price[y][g] = v;
        return was;
    }

    int bought(int p, int y, int g, int v) {
        known(in(p, 3), in(y, 8), in(g, 5));
        inside(v, 0, 9);
        int was = world.bought[p][y][g];
        world.bought[p][y][g] = v;
        return was;
    }

    int cost(int who, int y, int z) {
        known(in(who, 4), in(y, 8), in(z, 8));
        return world.cost(EVERY, who, y, z);
    }

    int goods(int a, int b, int what) {
        known(in(a, 8), in(b, 8));
        inside(what, 0, 2);
        int set = 0;
        for (int g = 0; g < 5; g++) {
            boolean inA = world.price[a][g] != 0;
            boolean inB = world.price[b][g] != 0;
            boolean is = what == 0 ? !inA && inB : what == 1 ? inA && !inB : world.goods().contains(g);
            set += is ? 1 << g : 0;
        }
        return set;
    }

    int count(int what) {
        inside(what, 0, 4);
        int prices = 0;
        int years = 0;
        for (int[] row : world.price) {
            int some = 0;
            for (int v : row) {
                some += v != 0 ? 1 : 0;
            }
            prices += some;
            years += some > 0 ? 1 : 0;
        }
        return List.of(numbers.size(), text.length(), prices, world.goods().size(), years).get(what);
    }

    int feed(int n, long bytes) {
        inside(n, 1, 8);
        if (text.length() + n > 60) {
            throw new Refused(FULL);
        }
        String more = "";
        for (int i = 0; i < n; i++) {
            more = (char) (bytes & 255) + more;
            bytes >>= 8;
        }
        text += more;
        return text.length();
    }

    // ---- reading: pieces with their places, then one piece after another

    static final class Fault extends RuntimeException {
        private static final long serialVersionUID = 1L;
        final int kind;
        final int place;

        Fault(int kind, int place) {
            super(null, null, false, false);
            this.kind = kind;
            this.place = place;
        }
    }

    private List<Piece> pieces;
    private int at;

    private static List<Piece> cut(String text) {
        List<Piece> all = new ArrayList<>();
        java.util.regex.Matcher m = java.util.regex.Pattern.compile("[a-z]+|[^ ]", java.util.regex.Pattern.DOTALL).matcher(text);
        while (m.find()) {
            all.add(new Piece(m.group(), m.start()));
        }
        all.add(new Piece("", text.length()));
        return all;
    }

    private Piece take() {
        return pieces.get(at++);
    }

    private void want(String sign) {
        Piece p = take();
        if (!p.text.equals(sign)) {
            throw new Fault(1, p.place);
        }
    }

    private Term term(int depth) {
        Piece p = take();
        boolean leaf = List.of("old", "new", "mid", "at", "plain", "sums").contains(p.text);
        boolean pair = List.of("root", "mean", "least", "most").contains(p.text);
        boolean one = List.of("back", "link", "both").contains(p.text);
        if (!leaf && !pair && !one) {
            throw new Fault(1, p.place);
        }
        if (depth > 8) {
            throw new Fault(2, p.place);
        }
        if (p.text.equals("at")) {
            Piece year = take();
            if (!year.text.matches("[0-7]")) {
                throw new Fault(1, year.place);
            }
            return new Term("at", Integer.parseInt(year.text), null, null);
        }
        if (pair) {
            want("(");
            Term first = term(depth + 1);
            want(",");
            Term second = term(depth + 1);
            want(")");
            return new Term(p.text, 0, first, second);
        }
        return new Term(p.text, 0, one ? term(depth + 1) : null, null);
    }

    int number() {
        if (numbers.size() == 8) {
            throw new Refused(FULL);
        }
        pieces = cut(text);
        at = 0;
        text = "";
        try {
            Term t = term(1);
            want("");
            numbers.add(t);
            faultPlace = NONE;
            return numbers.size() - 1;
        } catch (Fault f) {
            faultPlace = f.place;
            return -10 - f.kind;
        }
    }

    int fault() {
        return faultPlace;
    }

    // ---- WORTH

    static void small(BigInteger v) {
        if (v.compareTo(HIGHEST) > 0) {
            throw new Refused(LARGE);
        }
    }

    static Value value(BigInteger up, BigInteger low, boolean root) {
        if (low.signum() == 0) {
            throw new Refused(NOT);
        }
        BigInteger d = up.gcd(low);
        Value v = new Value(up.divide(d), low.divide(d), root);
        small(v.up);
        small(v.low);
        return v;
    }

    static Value share(long up, long low) {
        return value(BigInteger.valueOf(up), BigInteger.valueOf(low), false);
    }

    static Value times(Value x, Value y) {
        if (x.root != y.root) {
            throw new Refused(NOT);
        }
        return value(x.up.multiply(y.up), x.low.multiply(y.low), x.root);
    }

    /** Upper number of the sum, and the least common lower number. */
    static BigInteger[] sum(Value x, Value y) {
        BigInteger low = x.low.divide(x.low.gcd(y.low)).multiply(y.low);
        BigInteger one = x.up.multiply(low.divide(x.low));
        BigInteger two = y.up.multiply(low.divide(y.low));
        small(low);
        small(one);
        small(two);
        return new BigInteger[] {one.add(two), low};
    }

    static int compare(Value x, Value y) {
        Value p = x;
        Value q = y;
        if (x.root && !y.root) {
            q = value(y.up.pow(2), y.low.pow(2), true);
        }
        if (y.root && !x.root) {
            p = value(x.up.pow(2), x.low.pow(2), true);
        }
        return p.up.multiply(q.low).compareTo(q.up.multiply(p.low));
    }

    static Value worth(World w, List<Integer> goods, Term t, int who, int a, int b) {
        switch (t.word) {
            case "old":
                return share(w.cost(goods, who, b, a), w.cost(goods, who, a, a));
            case "new":
                return share(w.cost(goods, who, b, b), w.cost(goods, who, a, b));
            case "mid":
                return share(w.cost(goods, who, b, a) + w.cost(goods, who, b, b),
                        w.cost(goods, who, a, a) + w.cost(goods, who, a, b));
            case "at":
                return share(w.cost(goods, who, b, t.year), w.cost(goods, who, a, t.year));
            case "sums":
            case "plain":
                return prices(w, goods, t.word, a, b);
            case "back":
                Value back = worth(w, goods, t.one, who, b, a);
                return value(back.low, back.up, back.root);
            case "both":
                List<Integer> shared = new ArrayList<>();
                for (int g : goods) {
                    if (w.price[a][g] != 0 && w.price[b][g] != 0) {
                        shared.add(g);
                    }
                }
                return worth(w, shared, t.one, who, a, b);
            case "link":
                return linked(w, goods, t.one, who, a, b);
            default:
                return pair(t.word, worth(w, goods, t.one, who, a, b), worth(w, goods, t.two, who, a, b));
        }
    }

    private static Value prices(World w, List<Integer> goods, String word, int a, int b) {
        int before = 0;
        int after = 0;
        Value sum = share(0, 1);
        for (int g : goods) {
            if (w.price[a][g] == 0 || w.price[b][g] == 0) {
                throw new Refused(NOT);
            }
            before += w.price[a][g];
            after += w.price[b][g];
            BigInteger[] more = sum(sum, share(w.price[b][g], w.price[a][g]));
            sum = value(more[0], more[1], false);
        }
        if (word.equals("sums")) {
            return share(after, before);
        }
        return value(sum.up, sum.low.multiply(BigInteger.valueOf(goods.size())), false);
    }

    private static Value linked(World w, List<Integer> goods, Term t, int who, int a, int b) {
        if (a == b) {
            return share(1, 1);
        }
        int step = a < b ? 1 : -1;
        Value all = worth(w, goods, t, who, a, a + step);
        for (int y = a + step; y != b; y += step) {
            all = times(all, worth(w, goods, t, who, y, y + step));
        }
        return all;
    }

    private static Value pair(String word, Value x, Value y) {
        if (word.equals("least")) {
            return compare(y, x) < 0 ? y : x;
        }
        if (word.equals("most")) {
            return compare(y, x) > 0 ? y : x;
        }
        if (x.root || y.root) {
            throw new Refused(NOT);
        }
        if (word.equals("root")) {
            Value v = times(x, y);
            return new Value(v.up, v.low, true);
        }
        BigInteger[] both = sum(x, y);
        return value(both[0], both[1].shiftLeft(1), false);
    }

    private Value worth(World w, int n, int who, int a, int b) {
        return worth(w, w.goods(), numbers.get(n), who, a, b);
    }

    long worth(int n, int who, int a, int b, int what) {
        known(isNumber(n), in(who, 4), in(a, 8), in(b, 8));
        inside(what, 0, 2);
        Value v = worth(world, n, who, a, b);
        return what == 0 ? v.up.longValueExact() : what == 1 ? v.low.longValueExact() : v.root ? 1 : 0;
    }

    int order(int n, int m, int who, int a, int b) {
        known(isNumber(n), isNumber(m), in(who, 4), in(a, 8), in(b, 8));
        Value v = worth(world, n, who, a, b);
        return compare(v, worth(world, m, who, a, b));
    }

    // ---- laws

    private boolean breaks(int n, int who, int law, int a, int b, int t) {
        World w = world.copy();
        Value one = share(1, 1);
        switch (law) {
            case 0:
                w.price[b] = w.price[a].clone();
                return compare(worth(w, n, who, a, b), one) != 0;
            case 1:
                return compare(times(worth(w, n, who, a, b), worth(w, n, who, b, a)), one) != 0;
            case 2:
                return compare(times(worth(w, n, who, a, b), worth(w, n, who, b, t)), worth(w, n, who, a, t)) != 0;
            case 3:
                for (int g = 0; g < 5; g++) {
                    w.price[b][g] *= 2;
                }
                Value was = worth(world, n, who, a, b);
                Value twice = value(was.up.multiply(BigInteger.valueOf(was.root ? 4 : 2)), was.low, was.root);
                return compare(worth(w, n, who, a, b), twice) != 0;
            case 4:
                for (int y = 0; y < 8; y++) {
                    w.price[y][t] *= 2;
                    for (int p = 0; p < 3; p++) {
                        for (int g = 0; g < 5; g++) {
                            w.bought[p][y][g] *= g == t ? 1 : 2;
                        }
                    }
                }
                return compare(worth(w, n, who, a, b), worth(world, n, who, a, b)) != 0;
            case 5:
                if (w.price[b][t] == 0) {
                    return false;
                }
                w.price[b][t]++;
                return compare(worth(w, n, who, a, b), worth(world, n, who, a, b)) < 0;
            default:
                boolean under = true;
                boolean above = true;
                boolean some = false;
                Value v = worth(w, n, who, a, b);
                for (int g = 0; g < 5; g++) {
                    if (w.price[a][g] != 0 && w.price[b][g] != 0) {
                        some = true;
                        under &= compare(v, share(w.price[b][g], w.price[a][g])) < 0;
                        above &= compare(v, share(w.price[b][g], w.price[a][g])) > 0;
                    }
                }
                return some && (under || above);
        }
    }

    private int[] breachOf(int n, int who, int law) {
        for (int a = 0; a < 8; a++) {
            for (int b = 0; b < 8; b++) {
                List<Integer> thirds = new ArrayList<>(List.of(NONE));
                if (law == 2) {
                    thirds = new ArrayList<>(List.of(0, 1, 2, 3, 4, 5, 6, 7));
                    thirds.remove((Integer) a);
                    thirds.remove((Integer) b);
                } else if (law == 4 || law == 5) {
                    thirds = world.goods();
                }
                for (int t : thirds) {
                    try {
                        if (a != b && breaks(n, who, law, a, b, t)) {
                            return new int[] {a, b, t};
                        }
                    } catch (Refused passedOver) {
                        continue;
                    }
                }
            }
        }
        return null;
    }

    int keeps(int n, int who, int law) {
        known(isNumber(n), in(who, 4), in(law, 7));
        return breachOf(n, who, law) == null ? 1 : 0;
    }

    int breach(int n, int who, int law, int what) {
        known(isNumber(n), in(who, 4), in(law, 7));
        inside(what, 0, 2);
        int[] found = breachOf(n, who, law);
        return found == null ? NONE : found[what];
    }

    int clash(int who) {
        known(in(who, 4));
        boolean[][] kept = new boolean[numbers.size()][7];
        for (int n = 0; n < numbers.size(); n++) {
            for (int law = 0; law < 7; law++) {
                kept[n][law] = breachOf(n, who, law) == null;
            }
        }
        int best = NONE;
        for (int set = 0; set < 128; set++) {
            boolean oneKeeps = false;
            for (boolean[] row : kept) {
                boolean all = true;
                for (int law = 0; law < 7; law++) {
                    all &= row[law] || (set & 1 << law) == 0;
                }
                oneKeeps |= all;
            }
            if (!oneKeeps && (best == NONE || Integer.bitCount(set) < Integer.bitCount(best))) {
                best = set;
            }
        }
        return best;
    }

    long drift(int n, int who, int a, int b, int what) {
        known(isNumber(n), in(who, 4), in(a, 8), in(b, 8));
        inside(what, 0, 1);
        Value chain = worth(world, world.goods(), new Term("link", 0, numbers.get(n), null), who, a, b);
        Value self = worth(world, n, who, a, b);
        if (chain.root || self.root) {
            throw new Refused(NOT);
        }
        Value v = value(chain.up.multiply(self.low), chain.low.multiply(self.up), false);
        return what == 0 ? v.up.longValueExact() : v.low.longValueExact();
    }

    // ---- likes

    int chosen(int who, int y, int z) {
        known(in(who, 4), in(y, 8), in(z, 8));
        try {
            return Math.max(-1, Math.min(1, world.cost(EVERY, who, y, y) - world.cost(EVERY, who, y, z))) + 1;
        } catch (Refused holed) {
            return 0;
        }
    }

    private List<Integer> ringOf(int who) {
        int[][] c = new int[8][8];
        for (int y = 0; y < 8; y++) {
            for (int z = 0; z < 8; z++) {
                c[y][z] = chosen(who, y, z);
            }
        }
        List<List<Integer>> rows = new ArrayList<>();
        for (int y = 0; y < 8; y++) {
            rows.add(List.of(y));
        }
        for (int length = 2; length <= 8; length++) {
            List<List<Integer>> longer = new ArrayList<>();
            for (List<Integer> row : rows) {
                for (int y = 0; y < 8; y++) {
                    if (!row.contains(y) && c[row.get(row.size() - 1)][y] > 0) {
                        List<Integer> more = new ArrayList<>(row);
                        more.add(y);
                        longer.add(more);
                    }
                }
            }
            rows = longer;
            for (List<Integer> row : rows) {
                boolean sure = false;
                boolean whole = true;
                for (int i = 0; i < length; i++) {
                    int step = c[row.get(i)][row.get((i + 1) % length)];
                    sure |= step == 2;
                    whole &= step > 0;
                }
                if (whole && sure) {
                    return row;
                }
            }
        }
        return List.of();
    }

    int ring(int who, int i) {
        known(in(who, 4));
        List<Integer> row = ringOf(who);
        return i == NONE ? row.size() : in(i, row.size()) ? row.get(i) : NONE;
    }

    int need(int who, int a, int b, int what) {
        known(in(who, 4), in(a, 8), in(b, 8));
        inside(what, 0, 2);
        int spent = world.cost(EVERY, who, a, a);
        if (spent == 0) {
            throw new Refused(NOT);
        }
        boolean[][] way = new boolean[8][8];
        for (int y = 0; y < 8; y++) {
            for (int z = 0; z < 8; z++) {
                way[y][z] = y == z || chosen(who, y, z) > 0;
            }
        }
        for (int k = 0; k < 8; k++) {
            for (int y = 0; y < 8; y++) {
                for (int z = 0; z < 8; z++) {
                    way[y][z] |= way[y][k] && way[k][z];
                }
            }
        }
        int best = NONE;
        int least = Integer.MAX_VALUE;
        for (int x = 0; x < 8; x++) {
            try {
                if (way[x][a] && world.cost(EVERY, who, b, x) < least) {
                    least = world.cost(EVERY, who, b, x);
                    best = x;
                }
            } catch (Refused holed) {
                continue;
            }
        }
        if (best == NONE) {
            throw new Refused(NOT);
        }
        Value v = share(least, spent);
        return what == 2 ? best : (what == 0 ? v.up : v.low).intValueExact();
    }

    // ---- parts, wages, turns

    int part(int who, int g, int a, int b, int what) {
        known(in(who, 4), in(g, 5), in(a, 8), in(b, 8));
        inside(what, 0, 1);
        int spent = world.cost(EVERY, who, a, a);
        if (spent == 0) {
            throw new Refused(NOT);
        }
        if (world.amount(who, a, g) == 0) {
            return what;
        }
        if (world.price[a][g] == 0 || world.price[b][g] == 0) {
            throw new Refused(NOT);
        }
        Value v = share((long) (world.price[b][g] - world.price[a][g]) * world.amount(who, a, g), spent);
        return (what == 0 ? v.up : v.low).intValueExact();
    }

    long wage(int n, int who, int w, int a, int y) {
        known(isNumber(n), in(who, 4), in(a, 8), in(y, 8));
        inside(w, 1, 99999);
        Value v = worth(world, n, who, a, y);
        BigInteger times = v.up.multiply(BigInteger.valueOf(w).pow(v.root ? 2 : 1));
        if (times.compareTo(BigInteger.TEN.pow(18)) > 0) {
            throw new Refused(LARGE);
        }
        BigInteger whole = times.divide(v.low);
        return (v.root ? whole.sqrt() : whole).longValueExact();
    }

    int dearest(int n, int a, int b) {
        known(isNumber(n), in(a, 8), in(b, 8));
        int best = NONE;
        Value greatest = null;
        for (int p = 0; p < 3; p++) {
            try {
                Value v = worth(world, n, p, a, b);
                if (greatest == null || compare(v, greatest) > 0) {
                    greatest = v;
                    best = p;
                }
            } catch (Refused leftOut) {
                continue;
            }
        }
        return best;
    }

    int turn(int n, int who, int a, int b, int y, int g, int u, int l) {
        known(isNumber(n), in(who, 4), in(a, 8), in(b, 8), in(y, 8), in(g, 5));
        inside(u, 1, 9999);
        inside(l, 1, 9999);
        for (int v = 1; v <= 99; v++) {
            World w = world.copy();
            w.price[y][g] = v;
            try {
                if (compare(worth(w, n, who, a, b), share(u, l)) >= 0) {
                    return v;
                }
            } catch (Refused notSo) {
                continue;
            }
        }
        return NONE;
    }
}
