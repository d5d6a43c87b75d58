/**
 * Baskets of two years: prices and what was bought, numbers that say how much dearer it became,
 * the laws that such numbers ought to keep, and what follows from all of these.
 * Every row that a call needs is made with the object, so that a call itself makes none.
 */
public final class YearBaskets {
    public static final int NONE = -1, UNKNOWN = -1001, OUTSIDE = -1002, NOT = -1003, FULL = -1004, LARGE = -1005;

    private static final int YEARS = 8, GOODS = 5, PERSONS = 3, WHOS = 4, NUMBERS = 8, LAWS = 7;
    private static final int EVERY_GOOD = 31;
    private static final int TEXT_BYTES = 60, DEEPEST = 8;
    private static final int MOST_PRICE = 99, MOST_BOUGHT = 9, MOST_WAGE = 99999, MOST_SHARE = 9999;
    private static final long MOST_IN_WAGE = 1000000000000000000L;

    private static final int OLD = 0, NEW = 1, MID = 2, AT = 3, PLAIN = 4, SUMS = 5;
    private static final int ROOT = 6, MEAN = 7, LEAST = 8, MOST = 9, BACK = 10, LINK = 11, BOTH = 12, WORDS = 13;

    private static final int SAME = 0, BACKWARD = 1, THIRD = 2, TWICE = 3, UNITS = 4, UP = 5, BETWEEN = 6;

    private final Books books;
    private final Books tried;
    private final Plan[] plans;
    private final Reader reader;
    private final Teller teller;
    private final Laws laws;
    private final Likes likes;
    private final Fraction first;
    private final Fraction second;
    private int made;
    private int latestFault;

    public YearBaskets() {
        books = new Books();
        tried = new Books();
        plans = new Plan[NUMBERS];
        for (int n = 0; n < NUMBERS; n++) {
            plans[n] = new Plan();
        }
        reader = new Reader();
        teller = new Teller();
        laws = new Laws(books, tried, teller);
        likes = new Likes(books);
        first = new Fraction();
        second = new Fraction();
        made = 0;
        latestFault = NONE;
    }

    // ---- books

    public int price(int y, int g, int v) {
        if (isNoYear(y) || isNoGood(g)) {
            return UNKNOWN;
        }
        if (v < 0 || v > MOST_PRICE) {
            return OUTSIDE;
        }
        int was = books.priceOf(y, g);
        books.setPrice(y, g, v);
        laws.forget();
        return was;
    }

    public int bought(int p, int y, int g, int v) {
        if (isNoPerson(p) || isNoYear(y) || isNoGood(g)) {
            return UNKNOWN;
        }
        if (v < 0 || v > MOST_BOUGHT) {
            return OUTSIDE;
        }
        int was = books.amountOf(p, y, g);
        books.setAmount(p, y, g, v);
        books.setAmount(PERSONS, y, g, books.amountOf(PERSONS, y, g) - was + v);
        laws.forget();
        return was;
    }

    public int cost(int who, int y, int z) {
        if (isNoWho(who) || isNoYear(y) || isNoYear(z)) {
            return UNKNOWN;
        }
        int sum = books.costOver(EVERY_GOOD, who, y, z);
        return sum == NONE ? NOT : sum;
    }

    public int goods(int a, int b, int what) {
        if (isNoYear(a) || isNoYear(b)) {
            return UNKNOWN;
        }
        if (what < 0 || what > 2) {
            return OUTSIDE;
        }
        if (what == 2) {
            return books.goodsThere();
        }
        int inA = books.goodsPricedIn(a);
        int inB = books.goodsPricedIn(b);
        return what == 0 ? inB & ~inA : inA & ~inB;
    }

    public int count(int what) {
        switch (what) {
            case 0:
                return made;
            case 1:
                return reader.length;
            case 2:
                return books.pricesThere();
            case 3:
                return Integer.bitCount(books.goodsThere());
            case 4:
                return books.yearsPriced();
            default:
                return OUTSIDE;
        }
    }

    // ---- numbers

    public int feed(int n, long bytes) {
        if (n < 1 || n > 8) {
            return OUTSIDE;
        }
        if (reader.length + n > TEXT_BYTES) {
            return FULL;
        }
        for (int i = n - 1; i >= 0; i--) {
            reader.append((int) (bytes >>> (8 * i)) & 255);
        }
        return reader.length;
    }

    public int number() {
        Plan plan = made < NUMBERS ? plans[made] : null;
        if (plan == null) {
            return FULL;
        }
        reader.read(plan);
        reader.length = 0;
        if (reader.faultKind != 0) {
            latestFault = reader.faultPlace;
            return -10 - reader.faultKind;
        }
        latestFault = NONE;
        made++;
        return made - 1;
    }

    public int fault() {
        return latestFault;
    }

    public long worth(int n, int who, int a, int b, int what) {
        if (isNoNumber(n) || isNoWho(who) || isNoYear(a) || isNoYear(b)) {
            return UNKNOWN;
        }
        if (what < 0 || what > 2) {
            return OUTSIDE;
        }
        teller.tell(planOf(n), books, who, a, b, first);
        if (first.refusal != 0) {
            return first.refusal;
        }
        if (what == 2) {
            return first.root ? 1 : 0;
        }
        return what == 0 ? first.upper : first.lower;
    }

    public int order(int n, int m, int who, int a, int b) {
        if (isNoNumber(n) || isNoNumber(m) || isNoWho(who) || isNoYear(a) || isNoYear(b)) {
            return UNKNOWN;
        }
        teller.tell(planOf(n), books, who, a, b, first);
        if (first.refusal != 0) {
            return first.refusal;
        }
        teller.tell(planOf(m), books, who, a, b, second);
        if (second.refusal != 0) {
            return second.refusal;
        }
        return Fraction.orderOf(first, second);
    }

    // ---- laws

    public int keeps(int n, int who, int law) {
        if (isNoNumber(n) || isNoWho(who) || isNoLaw(law)) {
            return UNKNOWN;
        }
        return laws.breachOf(n, planOf(n), who, law) == Laws.KEPT ? 1 : 0;
    }

    public int breach(int n, int who, int law, int what) {
        if (isNoNumber(n) || isNoWho(who) || isNoLaw(law)) {
            return UNKNOWN;
        }
        if (what < 0 || what > 2) {
            return OUTSIDE;
        }
        int code = laws.breachOf(n, planOf(n), who, law);
        return code == Laws.KEPT ? NONE : Laws.partOfBreach(code, what);
    }

    public int clash(int who) {
        if (isNoWho(who)) {
            return UNKNOWN;
        }
        for (int n = 0; n < made; n++) {
            int kept = 0;
            for (int law = 0; law < LAWS; law++) {
                if (laws.breachOf(n, planOf(n), who, law) == Laws.KEPT) {
                    kept |= 1 << law;
                }
            }
            laws.setKept(n, kept);
        }
        return laws.leastKeptByNone(made);
    }

    public long drift(int n, int who, int a, int b, int what) {
        if (isNoNumber(n) || isNoWho(who) || isNoYear(a) || isNoYear(b)) {
            return UNKNOWN;
        }
        if (what < 0 || what > 1) {
            return OUTSIDE;
        }
        teller.tellLinked(planOf(n), books, who, a, b, first);
        if (first.refusal != 0) {
            return first.refusal;
        }
        teller.tell(planOf(n), books, who, a, b, second);
        if (second.refusal != 0) {
            return second.refusal;
        }
        if (first.root || second.root) {
            return NOT;
        }
        second.turnOver();
        first.multiply(second);
        if (first.refusal != 0) {
            return first.refusal;
        }
        return what == 0 ? first.upper : first.lower;
    }

    // ---- likes

    public int chosen(int who, int y, int z) {
        if (isNoWho(who) || isNoYear(y) || isNoYear(z)) {
            return UNKNOWN;
        }
        return likes.choice(who, y, z);
    }

    public int ring(int who, int i) {
        if (isNoWho(who)) {
            return UNKNOWN;
        }
        int length = likes.findRing(who);
        if (i == NONE) {
            return length;
        }
        return i < 0 || i >= length ? NONE : likes.yearInRing(i);
    }

    public int need(int who, int a, int b, int what) {
        if (isNoWho(who) || isNoYear(a) || isNoYear(b)) {
            return UNKNOWN;
        }
        if (what < 0 || what > 2) {
            return OUTSIDE;
        }
        int spent = books.costOver(EVERY_GOOD, who, a, a);
        if (spent <= 0) {
            return NOT;
        }
        int cheapest = likes.cheapestAsGood(who, a, b);
        if (cheapest == NONE) {
            return NOT;
        }
        if (what == 2) {
            return cheapest;
        }
        return inLeastTerms(books.costOver(EVERY_GOOD, who, b, cheapest), spent, what);
    }

    // ---- parts, wages, turns

    public int part(int who, int g, int a, int b, int what) {
        if (isNoWho(who) || isNoGood(g) || isNoYear(a) || isNoYear(b)) {
            return UNKNOWN;
        }
        if (what < 0 || what > 1) {
            return OUTSIDE;
        }
        int spent = books.costOver(EVERY_GOOD, who, a, a);
        if (spent <= 0) {
            return NOT;
        }
        int amount = books.amountOf(who, a, g);
        if (amount == 0) {
            return what;
        }
        int before = books.priceOf(a, g);
        int after = books.priceOf(b, g);
        if (before == 0 || after == 0) {
            return NOT;
        }
        return inLeastTerms((after - before) * amount, spent, what);
    }

    public long wage(int n, int who, int w, int a, int y) {
        if (isNoNumber(n) || isNoWho(who) || isNoYear(a) || isNoYear(y)) {
            return UNKNOWN;
        }
        if (w < 1 || w > MOST_WAGE) {
            return OUTSIDE;
        }
        teller.tell(planOf(n), books, who, a, y, first);
        if (first.refusal != 0) {
            return first.refusal;
        }
        long times = first.root ? (long) w * w : w;
        if (Fraction.exceeds(times, first.upper, MOST_IN_WAGE)) {
            return LARGE;
        }
        if (first.lower < 1) {
            return NOT;
        }
        long whole = times * first.upper / first.lower;
        return first.root ? wholeRoot(whole) : whole;
    }

    public int dearest(int n, int a, int b) {
        if (isNoNumber(n) || isNoYear(a) || isNoYear(b)) {
            return UNKNOWN;
        }
        int best = NONE;
        for (int p = 0; p < PERSONS; p++) {
            teller.tell(planOf(n), books, p, a, b, second);
            if (second.refusal != 0) {
                continue;
            }
            if (best == NONE || Fraction.orderOf(second, first) == 1) {
                first.take(second);
                best = p;
            }
        }
        return best;
    }

    public int turn(int n, int who, int a, int b, int y, int g, int u, int l) {
        if (isNoNumber(n) || isNoWho(who) || isNoYear(a) || isNoYear(b) || isNoYear(y) || isNoGood(g)) {
            return UNKNOWN;
        }
        if (u < 1 || u > MOST_SHARE || l < 1 || l > MOST_SHARE) {
            return OUTSIDE;
        }
        second.put(u, l);
        tried.copyFrom(books);
        for (int v = 1; v <= MOST_PRICE; v++) {
            tried.setPrice(y, g, v);
            teller.tell(planOf(n), tried, who, a, b, first);
            if (first.refusal != 0) {
                continue;
            }
            int o = Fraction.orderOf(first, second);
            if (o == 0 || o == 1) {
                return v;
            }
        }
        return NONE;
    }

    // ---- what there is, and small sums

    private static boolean isNoYear(int y) {
        return y < 0 || y >= YEARS;
    }

    private static boolean isNoGood(int g) {
        return g < 0 || g >= GOODS;
    }

    private static boolean isNoPerson(int p) {
        return p < 0 || p >= PERSONS;
    }

    private static boolean isNoWho(int who) {
        return who < 0 || who >= WHOS;
    }

    private static boolean isNoLaw(int law) {
        return law < 0 || law >= LAWS;
    }

    private boolean isNoNumber(int n) {
        return n < 0 || n >= made;
    }

    private Plan planOf(int n) {
        return n < 0 || n >= made || n >= NUMBERS ? null : plans[n];
    }

    /** The upper (what = 0) or lower number of upper / lower; the lower one is above 0. */
    private static int inLeastTerms(int upper, int lower, int what) {
        int divisor = (int) Fraction.commonDivisor(Math.abs(upper), lower);
        if (divisor < 1) {
            return NOT;
        }
        return what == 0 ? upper / divisor : lower / divisor;
    }

    /** The greatest whole number whose square is not above x, for x up to 10 to the 18. */
    private static long wholeRoot(long x) {
        long root = 0;
        for (int bit = 29; bit >= 0; bit--) {
            long more = root | 1L << bit;
            if (more * more <= x) {
                root = more;
            }
        }
        return root;
    }

    /** PRICES, and what each PERSON (the last row: all together) BOUGHT. */
    private static final class Books {
        private final int[] prices = new int[YEARS * GOODS];
        private final int[] amounts = new int[WHOS * YEARS * GOODS];

        void copyFrom(Books other) {
            if (other == null) {
                return;
            }
            System.arraycopy(other.prices, 0, prices, 0, prices.length);
            System.arraycopy(other.amounts, 0, amounts, 0, amounts.length);
        }

        int priceOf(int y, int g) {
            int i = y * GOODS + g;
            return i < 0 || i >= prices.length ? 0 : prices[i];
        }

        void setPrice(int y, int g, int v) {
            int i = y * GOODS + g;
            if (i >= 0 && i < prices.length) {
                prices[i] = v;
            }
        }

        int amountOf(int who, int y, int g) {
            int i = (who * YEARS + y) * GOODS + g;
            return i < 0 || i >= amounts.length ? 0 : amounts[i];
        }

        void setAmount(int who, int y, int g, int v) {
            int i = (who * YEARS + y) * GOODS + g;
            if (i >= 0 && i < amounts.length) {
                amounts[i] = v;
            }
        }

        void copyYear(int from, int to) {
            for (int g = 0; g < GOODS; g++) {
                setPrice(to, g, priceOf(from, g));
            }
        }

        void doubleYear(int y) {
            for (int g = 0; g < GOODS; g++) {
                setPrice(y, g, 2 * priceOf(y, g));
            }
        }

        /** A unit of g twice as large, told in amounts that stay whole: all others that WHO BOUGHT double. */
        void doubleUnit(int g, int who) {
            for (int y = 0; y < YEARS; y++) {
                setPrice(y, g, 2 * priceOf(y, g));
                for (int h = 0; h < GOODS; h++) {
                    setAmount(who, y, h, (h == g ? 1 : 2) * amountOf(who, y, h));
                }
            }
        }

        int goodsPricedIn(int y) {
            int set = 0;
            for (int g = 0; g < GOODS; g++) {
                if (priceOf(y, g) > 0) {
                    set |= 1 << g;
                }
            }
            return set;
        }

        int goodsThere() {
            int set = 0;
            for (int y = 0; y < YEARS; y++) {
                set |= goodsPricedIn(y);
            }
            return set;
        }

        int pricesThere() {
            int sum = 0;
            for (int y = 0; y < YEARS; y++) {
                sum += Integer.bitCount(goodsPricedIn(y));
            }
            return sum;
        }

        int yearsPriced() {
            int sum = 0;
            for (int y = 0; y < YEARS; y++) {
                sum += goodsPricedIn(y) == 0 ? 0 : 1;
            }
            return sum;
        }

        /** COST (y, z) over a SET of GOODS; NONE: it is HOLED. */
        int costOver(int set, int who, int y, int z) {
            int sum = 0;
            for (int g = 0; g < GOODS; g++) {
                int amount = (set >> g & 1) == 0 ? 0 : amountOf(who, z, g);
                if (amount == 0) {
                    continue;
                }
                int price = priceOf(y, g);
                if (price == 0) {
                    return NONE;
                }
                sum += price * amount;
            }
            return sum;
        }

        /** All PRICES of a YEAR over a SET of GOODS together; NONE: one is missing. */
        int pricesOver(int set, int y) {
            int sum = 0;
            for (int g = 0; g < GOODS; g++) {
                if ((set >> g & 1) == 0) {
                    continue;
                }
                int price = priceOf(y, g);
                if (price == 0) {
                    return NONE;
                }
                sum += price;
            }
            return sum;
        }
    }

    /** A fraction of 0 at least in least terms, or the square root of one; or why there is none. */
    private static final class Fraction {
        private static final long HIGHEST = 1000000000000000L;
        // Euclid's steps for numbers below 2 to the 63 are some ninety at most.
        private static final int STEPS = 200;

        private long upper = 0;
        private long lower = 1;
        private boolean root = false;
        private int refusal = 0;

        void refuse(int why) {
            upper = 0;
            lower = 1;
            root = false;
            refusal = why;
        }

        void take(Fraction other) {
            if (other == null) {
                return;
            }
            upper = other.upper;
            lower = other.lower;
            root = other.root;
            refusal = other.refusal;
        }

        void put(long up, long low) {
            if (up < 0 || low < 1) {
                refuse(NOT);
                return;
            }
            long divisor = commonDivisor(up, low);
            upper = divisor > 1 ? up / divisor : up;
            lower = divisor > 1 ? low / divisor : low;
            root = false;
            refusal = 0;
            if (upper > HIGHEST || lower > HIGHEST) {
                refuse(LARGE);
            }
        }

        void turnOver() {
            if (refusal != 0) {
                return;
            }
            if (upper == 0) {
                refuse(NOT);
                return;
            }
            long up = upper;
            upper = lower;
            lower = up;
        }

        void multiply(Fraction by) {
            if (refusal != 0) {
                return;
            }
            if (by == null || by.refusal != 0 || by.root != root) {
                refuse(by == null || by.refusal == 0 ? NOT : by.refusal);
                return;
            }
            long mine = commonDivisor(upper, by.lower);
            long its = commonDivisor(by.upper, lower);
            if (mine < 1 || its < 1) {
                refuse(NOT);
                return;
            }
            long up = upper / mine;
            long low = lower / its;
            long byUp = by.upper / its;
            long byLow = by.lower / mine;
            if (exceeds(up, byUp, HIGHEST) || exceeds(low, byLow, HIGHEST)) {
                refuse(LARGE);
                return;
            }
            upper = up * byUp;
            lower = low * byLow;
        }

        /** This one and up / low together, by parts: only then in least terms. */
        void addAndShare(long up, long low, int parts) {
            if (refusal != 0) {
                return;
            }
            if (up < 0 || low < 1 || lower < 1 || parts < 1) {
                refuse(NOT);
                return;
            }
            long shared = commonDivisor(lower, low);
            long mine = shared > 1 ? low / shared : low;
            long its = shared > 1 ? lower / shared : lower;
            if (exceeds(lower, mine, HIGHEST) || exceeds(upper, mine, HIGHEST) || exceeds(up, its, HIGHEST)) {
                refuse(LARGE);
                return;
            }
            long sum = upper * mine + up * its;
            long under = lower * mine * parts;
            long divisor = commonDivisor(sum, under);
            upper = divisor > 1 ? sum / divisor : sum;
            lower = divisor > 1 ? under / divisor : under;
            if (upper > HIGHEST || lower > HIGHEST) {
                refuse(LARGE);
            }
        }

        void doubleIt() {
            if (refusal == 0) {
                // Twice a root is the root of four times what stands below it.
                boolean wasRoot = root;
                put(upper * (wasRoot ? 4 : 2), lower);
                root = wasRoot && refusal == 0;
            }
        }

        /** ORDER of two: -1, 0, 1; LARGE. */
        static int orderOf(Fraction x, Fraction y) {
            if (x == null || y == null) {
                return NOT;
            }
            if (x.root == y.root) {
                return compareShares(x.upper, x.lower, y.upper, y.lower);
            }
            Fraction whole = x.root ? y : x;
            if (exceeds(whole.upper, whole.upper, HIGHEST) || exceeds(whole.lower, whole.lower, HIGHEST)) {
                return LARGE;
            }
            long up = whole.upper * whole.upper;
            long low = whole.lower * whole.lower;
            return x.root ? compareShares(x.upper, x.lower, up, low) : compareShares(up, low, y.upper, y.lower);
        }

        /** Compares a / b with c / d by whole parts and rests: the products could be above what a long holds. */
        static int compareShares(long a, long b, long c, long d) {
            long up = a;
            long low = b;
            long otherUp = c;
            long otherLow = d;
            int sign = 1;
            for (int i = 0; i < STEPS && low > 0 && otherLow > 0; i++) {
                long whole = up / low;
                long otherWhole = otherUp / otherLow;
                if (whole != otherWhole) {
                    return whole < otherWhole ? -sign : sign;
                }
                long rest = up % low;
                long otherRest = otherUp % otherLow;
                if (rest == 0 || otherRest == 0) {
                    return rest == otherRest ? 0 : rest == 0 ? -sign : sign;
                }
                up = low;
                low = rest;
                otherUp = otherLow;
                otherLow = otherRest;
                sign = -sign;
            }
            return 0;
        }

        static long commonDivisor(long a, long b) {
            long x = a;
            long y = b;
            for (int i = 0; i < STEPS && y != 0; i++) {
                long rest = x % y;
                x = y;
                y = rest;
            }
            return x > 0 ? x : 1;
        }

        /** Whether x times y, both 0 at least, is above a bound. */
        static boolean exceeds(long x, long y, long bound) {
            return x > 0 && y > bound / x;
        }
    }

    /** A NUMBER's words in the order of its text: what a word holds first stands right behind it. */
    private static final class Plan {
        // A word and what parts it from the next one take three bytes at least.
        private static final int MOST_WORDS = TEXT_BYTES / 3;

        private final int[] words = new int[MOST_WORDS];
        private final int[] marks = new int[MOST_WORDS];
        private int size = 0;

        int add(int word) {
            if (size < 0 || size >= MOST_WORDS) {
                return NONE;
            }
            words[size] = word;
            marks[size] = NONE;
            size++;
            return size - 1;
        }

        void mark(int node, int v) {
            if (node >= 0 && node < MOST_WORDS) {
                marks[node] = v;
            }
        }

        int wordAt(int node) {
            return node < 0 || node >= size || node >= MOST_WORDS ? NONE : words[node];
        }

        /** The YEAR of an 'at'; where the second E of a pair begins. */
        int markAt(int node) {
            return node < 0 || node >= size || node >= MOST_WORDS ? NONE : marks[node];
        }
    }

    /** THE TEXT, and its reading into a Plan. */
    private static final class Reader {
        private final int[] bytes = new int[TEXT_BYTES];
        private int length = 0;
        private int place = 0;
        private int faultKind = 0;
        private int faultPlace = NONE;
        private Plan plan = null;

        void append(int v) {
            if (length >= 0 && length < TEXT_BYTES) {
                bytes[length] = v;
                length++;
            }
        }

        void read(Plan into) {
            plan = into;
            place = 0;
            faultKind = 0;
            faultPlace = NONE;
            if (plan != null) {
                plan.size = 0;
            }
            readTerm(1);
            skipBlanks();
            if (faultKind == 0 && place < length) {
                blame(1);
            }
        }

        private void blame(int kind) {
            faultKind = kind;
            faultPlace = place;
        }

        private int byteAt(int i) {
            return i < 0 || i >= length || i >= TEXT_BYTES ? NONE : bytes[i];
        }

        private void skipBlanks() {
            for (int i = 0; i < TEXT_BYTES && byteAt(place) == ' '; i++) {
                place++;
            }
        }

        private void readTerm(int depth) {
            if (faultKind != 0) {
                return;
            }
            skipBlanks();
            int letters = lettersHere();
            int word = wordHere(letters);
            if (word == NONE) {
                blame(1);
                return;
            }
            int node = depth > DEEPEST || plan == null ? NONE : plan.add(word);
            if (node == NONE) {
                blame(2);
                return;
            }
            place += letters;
            if (word == AT) {
                readYear(node);
            } else if (word >= BACK) {
                readTerm(depth + 1);
            } else if (word >= ROOT) {
                readPair(node, depth);
            }
        }

        private void readPair(int node, int depth) {
            readSign('(');
            readTerm(depth + 1);
            readSign(',');
            if (plan != null) {
                plan.mark(node, plan.size);
            }
            readTerm(depth + 1);
            readSign(')');
        }

        private void readYear(int node) {
            skipBlanks();
            int year = byteAt(place) - '0';
            if (isNoYear(year) || plan == null) {
                blame(1);
                return;
            }
            plan.mark(node, year);
            place++;
        }

        private void readSign(char sign) {
            if (faultKind != 0) {
                return;
            }
            skipBlanks();
            if (byteAt(place) == sign) {
                place++;
            } else {
                blame(1);
            }
        }

        private int lettersHere() {
            int letters = 0;
            for (int i = 0; i < TEXT_BYTES && byteAt(place + i) >= 'a' && byteAt(place + i) <= 'z'; i++) {
                letters++;
            }
            return letters;
        }

        private int wordHere(int letters) {
            for (int word = 0; word < WORDS; word++) {
                if (isHere(nameOf(word), letters)) {
                    return word;
                }
            }
            return NONE;
        }

        private boolean isHere(String name, int letters) {
            if (name.length() != letters) {
                return false;
            }
            for (int i = 0; i < name.length(); i++) {
                if (byteAt(place + i) != name.charAt(i)) {
                    return false;
                }
            }
            return true;
        }

        private static String nameOf(int word) {
            switch (word) {
                case OLD: return "old";
                case NEW: return "new";
                case MID: return "mid";
                case AT: return "at";
                case PLAIN: return "plain";
                case SUMS: return "sums";
                case ROOT: return "root";
                case MEAN: return "mean";
                case LEAST: return "least";
                case MOST: return "most";
                case BACK: return "back";
                case LINK: return "link";
                default: return "both";
            }
        }
    }

    /** Works out WORTHS of a Plan over some Books. */
    private static final class Teller {
        private final Fraction[] spares = new Fraction[DEEPEST + 1];
        private Books books = null;
        private Plan plan = null;
        private int who = 0;

        Teller() {
            for (int i = 0; i < spares.length; i++) {
                spares[i] = new Fraction();
            }
        }

        void tell(Plan ofPlan, Books inBooks, int forWho, int a, int b, Fraction out) {
            if (isReady(ofPlan, inBooks, forWho, out)) {
                tellTerm(0, a, b, inBooks.goodsThere(), 0, out);
            }
        }

        /** WORTH of link of the whole NUMBER. */
        void tellLinked(Plan ofPlan, Books inBooks, int forWho, int a, int b, Fraction out) {
            if (isReady(ofPlan, inBooks, forWho, out)) {
                tellLink(0, a, b, inBooks.goodsThere(), 0, out);
            }
        }

        private boolean isReady(Plan ofPlan, Books inBooks, int forWho, Fraction out) {
            if (out == null) {
                return false;
            }
            if (ofPlan == null || inBooks == null) {
                out.refuse(NOT);
                return false;
            }
            plan = ofPlan;
            books = inBooks;
            who = forWho;
            return true;
        }

        private void tellTerm(int node, int a, int b, int set, int depth, Fraction out) {
            if (depth > DEEPEST || plan == null || books == null) {
                out.refuse(NOT);
                return;
            }
            int word = plan.wordAt(node);
            switch (word) {
                case PLAIN:
                    tellPlain(a, b, set, out);
                    break;
                case ROOT: case MEAN: case LEAST: case MOST:
                    tellPair(node, a, b, set, depth, out);
                    break;
                case BACK:
                    tellTerm(node + 1, b, a, set, depth + 1, out);
                    out.turnOver();
                    break;
                case LINK:
                    tellLink(node + 1, a, b, set, depth, out);
                    break;
                case BOTH:
                    int shared = set & books.goodsPricedIn(a) & books.goodsPricedIn(b);
                    tellTerm(node + 1, a, b, shared, depth + 1, out);
                    break;
                default:
                    tellCosts(node, a, b, set, out);
                    break;
            }
        }

        private void tellCosts(int node, int a, int b, int set, Fraction out) {
            int up = NONE;
            int low = NONE;
            switch (plan.wordAt(node)) {
                case OLD:
                    up = books.costOver(set, who, b, a);
                    low = books.costOver(set, who, a, a);
                    break;
                case NEW:
                    up = books.costOver(set, who, b, b);
                    low = books.costOver(set, who, a, b);
                    break;
                case MID:
                    up = together(books.costOver(set, who, b, a), books.costOver(set, who, b, b));
                    low = together(books.costOver(set, who, a, a), books.costOver(set, who, a, b));
                    break;
                case AT:
                    up = books.costOver(set, who, b, plan.markAt(node));
                    low = books.costOver(set, who, a, plan.markAt(node));
                    break;
                case SUMS:
                    up = books.pricesOver(set, b);
                    low = books.pricesOver(set, a);
                    break;
                default:
                    break;
            }
            out.put(up, low);
        }

        private static int together(int one, int other) {
            return one == NONE || other == NONE ? NONE : one + other;
        }

        private void tellPlain(int a, int b, int set, Fraction out) {
            out.put(0, 1);
            int many = 0;
            for (int g = 0; g < GOODS; g++) {
                if ((set >> g & 1) == 0) {
                    continue;
                }
                int before = books.priceOf(a, g);
                int after = books.priceOf(b, g);
                if (before == 0 || after == 0) {
                    out.refuse(NOT);
                    return;
                }
                out.addAndShare(after, before, 1);
                many++;
            }
            if (out.refusal == 0) {
                out.put(out.upper, out.lower * many);
            }
        }

        private void tellPair(int node, int a, int b, int set, int depth, Fraction out) {
            Fraction other = spareAt(depth);
            if (other == null) {
                out.refuse(NOT);
                return;
            }
            tellTerm(node + 1, a, b, set, depth + 1, out);
            if (out.refusal != 0) {
                return;
            }
            tellTerm(plan.markAt(node), a, b, set, depth + 1, other);
            if (other.refusal != 0) {
                out.refuse(other.refusal);
                return;
            }
            int word = plan.wordAt(node);
            if (word == LEAST || word == MOST) {
                int o = Fraction.orderOf(other, out);
                if (o == LARGE) {
                    out.refuse(LARGE);
                } else if (o == (word == LEAST ? -1 : 1)) {
                    out.take(other);
                }
            } else if (out.root || other.root) {
                out.refuse(NOT);
            } else if (word == MEAN) {
                out.addAndShare(other.upper, other.lower, 2);
            } else {
                out.multiply(other);
                out.root = out.refusal == 0;
            }
        }

        /** link of the E at a node: a step from YEAR to YEAR, each multiplied with those ahead of it. */
        private void tellLink(int node, int a, int b, int set, int depth, Fraction out) {
            Fraction next = spareAt(depth);
            if (next == null) {
                out.refuse(NOT);
                return;
            }
            out.put(1, 1);
            int way = a < b ? 1 : -1;
            int steps = Math.abs(b - a);
            for (int i = 0; i < steps && i < YEARS; i++) {
                int y = a + i * way;
                tellTerm(node, y, y + way, set, depth + 1, i == 0 ? out : next);
                if (i > 0) {
                    out.multiply(next);
                }
                if (out.refusal != 0) {
                    return;
                }
            }
        }

        private Fraction spareAt(int depth) {
            return depth < 0 || depth >= spares.length ? null : spares[depth];
        }
    }

    /** Looks for the BREACH of a LAW, and keeps what was found until PRICES or what was BOUGHT change. */
    private static final class Laws {
        private static final int KEPT = 1;
        private static final int NOT_LOOKED = 0;
        // Codes of breaches begin behind the two above; a third is told one higher, so that NONE fits.
        private static final int FIRST_CODE = 2, THIRDS = YEARS + 1;

        private final Books books;
        private final Books tried;
        private final Teller teller;
        private final long[] uppers = new long[YEARS * YEARS];
        private final long[] lowers = new long[YEARS * YEARS];
        private final int[] kinds = new int[YEARS * YEARS];
        private final int[] found = new int[NUMBERS * WHOS * LAWS];
        private final int[] kept = new int[NUMBERS];
        private final Fraction left = new Fraction();
        private final Fraction right = new Fraction();
        private Plan plan = null;
        private int who = 0;
        private int told = NONE;

        Laws(Books inBooks, Books forTrying, Teller byTeller) {
            books = inBooks;
            tried = forTrying;
            teller = byTeller;
        }

        void forget() {
            for (int i = 0; i < found.length; i++) {
                found[i] = NOT_LOOKED;
            }
            told = NONE;
        }

        static int partOfBreach(int code, int what) {
            int rest = code - FIRST_CODE;
            if (what == 0) {
                return rest / (YEARS * THIRDS);
            }
            return what == 1 ? rest / THIRDS % YEARS : rest % THIRDS - 1;
        }

        /** KEPT, or the first breach as a code. */
        int breachOf(int n, Plan ofPlan, int forWho, int law) {
            int i = (n * WHOS + forWho) * LAWS + law;
            if (i < 0 || i >= found.length || ofPlan == null || books == null || tried == null || teller == null) {
                return KEPT;
            }
            if (found[i] != NOT_LOOKED) {
                return found[i];
            }
            plan = ofPlan;
            who = forWho;
            if (told != n * WHOS + who) {
                tellAllYears();
                told = n * WHOS + who;
            }
            int goods = books.goodsThere();
            int from = law == THIRD || law == UNITS || law == UP ? 0 : NONE;
            int to = law == THIRD ? YEARS - 1 : from == 0 ? GOODS - 1 : NONE;
            for (int a = 0; a < YEARS; a++) {
                for (int b = 0; b < YEARS; b++) {
                    for (int t = from; t <= to && a != b; t++) {
                        boolean wanted = law == THIRD ? t != a && t != b : t == NONE || (goods >> t & 1) == 1;
                        if (wanted && isBroken(law, a, b, t)) {
                            found[i] = FIRST_CODE + (a * YEARS + b) * THIRDS + t + 1;
                            return found[i];
                        }
                    }
                }
            }
            found[i] = KEPT;
            return KEPT;
        }

        /** WORTHS from each YEAR to each are asked for by most laws, again and again. */
        private void tellAllYears() {
            for (int i = 0; i < kinds.length && i < uppers.length && i < lowers.length; i++) {
                teller.tell(plan, books, who, i / YEARS, i % YEARS, left);
                uppers[i] = left.upper;
                lowers[i] = left.lower;
                kinds[i] = left.refusal != 0 ? left.refusal : left.root ? 1 : 0;
            }
        }

        private void recall(int a, int b, Fraction out) {
            int i = a * YEARS + b;
            if (isNoYear(a) || isNoYear(b) || i >= kinds.length || i >= uppers.length || i >= lowers.length) {
                out.refuse(NOT);
                return;
            }
            if (kinds[i] < 0) {
                out.refuse(kinds[i]);
                return;
            }
            out.put(uppers[i], lowers[i]);
            out.root = kinds[i] == 1;
        }

        private boolean isBroken(int law, int a, int b, int t) {
            if (law == BETWEEN) {
                return isBeyondRatios(a, b);
            }
            if (law == UP && books.priceOf(b, t) == 0) {
                return false;
            }
            if (law == BACKWARD || law == THIRD) {
                recall(a, b, left);
                recall(b, law == THIRD ? t : a, right);
                left.multiply(right);
            } else {
                changeBooks(law, a, b, t);
                teller.tell(plan, tried, who, a, b, left);
            }
            if (law == SAME || law == BACKWARD) {
                right.put(1, 1);
            } else {
                recall(a, law == THIRD ? t : b, right);
            }
            if (law == TWICE) {
                right.doubleIt();
            }
            if (left.refusal != 0 || right.refusal != 0) {
                return false;
            }
            int o = Fraction.orderOf(left, right);
            return o == -1 || o == 1 && law != UP;
        }

        private void changeBooks(int law, int a, int b, int g) {
            tried.copyFrom(books);
            switch (law) {
                case SAME:
                    tried.copyYear(a, b);
                    break;
                case TWICE:
                    tried.doubleYear(b);
                    break;
                case UNITS:
                    tried.doubleUnit(g, who);
                    break;
                default:
                    tried.setPrice(b, g, tried.priceOf(b, g) + 1);
                    break;
            }
        }

        private boolean isBeyondRatios(int a, int b) {
            int least = NONE;
            int greatest = NONE;
            for (int g = 0; g < GOODS; g++) {
                if (books.priceOf(a, g) == 0 || books.priceOf(b, g) == 0) {
                    continue;
                }
                if (least == NONE || compareRatios(a, b, g, least) < 0) {
                    least = g;
                }
                if (greatest == NONE || compareRatios(a, b, g, greatest) > 0) {
                    greatest = g;
                }
            }
            recall(a, b, left);
            if (least == NONE || left.refusal != 0) {
                return false;
            }
            right.put(books.priceOf(b, least), books.priceOf(a, least));
            if (Fraction.orderOf(left, right) == -1) {
                return true;
            }
            right.put(books.priceOf(b, greatest), books.priceOf(a, greatest));
            return Fraction.orderOf(left, right) == 1;
        }

        private int compareRatios(int a, int b, int g, int h) {
            return Integer.compare(books.priceOf(b, g) * books.priceOf(a, h), books.priceOf(b, h) * books.priceOf(a, g));
        }

        void setKept(int n, int set) {
            if (n >= 0 && n < kept.length) {
                kept[n] = set;
            }
        }

        /** The least SET (fewest LAWS first) that none of so many NUMBERS keeps all. */
        int leastKeptByNone(int numbers) {
            for (int size = 0; size <= LAWS; size++) {
                for (int set = 0; set < 1 << LAWS; set++) {
                    if (Integer.bitCount(set) == size && !isKeptByOne(set, numbers)) {
                        return set;
                    }
                }
            }
            return NONE;
        }

        private boolean isKeptByOne(int set, int numbers) {
            for (int n = 0; n < numbers && n < kept.length; n++) {
                if ((set & ~kept[n]) == 0) {
                    return true;
                }
            }
            return false;
        }
    }

    /** Which YEARS are CHOSEN ahead of which, and what follows. */
    private static final class Likes {
        private static final int AHEAD = 1, SURELY = 2;

        private final Books books;
        private final int[] choices = new int[YEARS * YEARS];
        private final int[] row = new int[YEARS];
        private final boolean[] asGood = new boolean[YEARS];

        Likes(Books inBooks) {
            books = inBooks;
        }

        int choice(int who, int y, int z) {
            int own = books == null ? NONE : books.costOver(EVERY_GOOD, who, y, y);
            int other = books == null ? NONE : books.costOver(EVERY_GOOD, who, y, z);
            if (own == NONE || other == NONE || own < other) {
                return 0;
            }
            return own > other ? SURELY : AHEAD;
        }

        private void chooseAll(int who) {
            for (int i = 0; i < choices.length; i++) {
                choices[i] = choice(who, i / YEARS, i % YEARS);
            }
        }

        private int choiceAt(int y, int z) {
            int i = y * YEARS + z;
            return isNoYear(y) || isNoYear(z) || i >= choices.length ? 0 : choices[i];
        }

        int yearInRing(int i) {
            return i < 0 || i >= row.length ? NONE : row[i];
        }

        private void setYearInRing(int i, int y) {
            if (i >= 0 && i < row.length) {
                row[i] = y;
            }
        }

        /** How many YEARS THE RING has; 0: there is none. */
        int findRing(int who) {
            chooseAll(who);
            // YEARS that are all alike make very many rows: they are tried only where one of them is a ring.
            if (!hasRing()) {
                return 0;
            }
            for (int length = 2; length <= YEARS; length++) {
                for (int y = 0; y < YEARS; y++) {
                    setYearInRing(0, y);
                    if (closesFrom(1, length, 1 << y, false)) {
                        return length;
                    }
                }
            }
            return 0;
        }

        /** Whether from a YEAR, surely ahead of another one, one comes back to it. */
        private boolean hasRing() {
            for (int y = 0; y < YEARS; y++) {
                findAsGood(y);
                for (int z = 0; z < asGood.length; z++) {
                    if (asGood[z] && choiceAt(y, z) == SURELY) {
                        return true;
                    }
                }
            }
            return false;
        }

        /** Tries the YEARS from a place of the row on. The first row begins with its least YEAR. */
        private boolean closesFrom(int at, int length, int used, boolean sure) {
            int last = yearInRing(at - 1);
            if (at >= length || at >= YEARS) {
                int end = choiceAt(last, yearInRing(0));
                return end == SURELY || end == AHEAD && sure;
            }
            for (int y = yearInRing(0) + 1; y < YEARS; y++) {
                int step = (used >> y & 1) == 1 ? 0 : choiceAt(last, y);
                if (step == 0) {
                    continue;
                }
                setYearInRing(at, y);
                if (closesFrom(at + 1, length, used | 1 << y, sure || step == SURELY)) {
                    return true;
                }
            }
            return false;
        }

        /** The YEAR as good as a whose basket costs least in b; NONE: all are HOLED. */
        int cheapestAsGood(int who, int a, int b) {
            chooseAll(who);
            findAsGood(a);
            int best = NONE;
            int least = NONE;
            for (int x = 0; x < asGood.length; x++) {
                int sum = asGood[x] && books != null ? books.costOver(EVERY_GOOD, who, b, x) : NONE;
                if (sum != NONE && (best == NONE || sum < least)) {
                    best = x;
                    least = sum;
                }
            }
            return best;
        }

        /** a, and the YEARS from which one comes to it; each round goes one step farther back. */
        private void findAsGood(int a) {
            for (int x = 0; x < asGood.length; x++) {
                asGood[x] = x == a;
            }
            for (int round = 1; round < YEARS; round++) {
                for (int x = 0; x < asGood.length; x++) {
                    for (int z = 0; z < asGood.length && !asGood[x]; z++) {
                        asGood[x] = asGood[z] && choiceAt(x, z) > 0;
                    }
                }
            }
        }
    }
}
