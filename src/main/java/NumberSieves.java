import java.util.Arrays;

/**
 * A bench for whole numbers: sieved spans, single numbers parted into primes, primes counted and
 * summed, sums of parts cut off, and rows that tell a number for each number.
 *
 * The working rows are made with the first call that needs them and used again by all later ones,
 * so that a new object is small and no call grows it twice.
 */
public final class NumberSieves {
    public static final int NONE = -1;

    private static final long TOP = 10000000000L;
    private static final int SPAN_MOST = 5000;
    private static final int COUNT_TOP = 2000000;
    private static final int REST_TOP = 60;
    private static final int LINE_TOP = 1000000;
    private static final int FAR_TOP = 1000000000;
    private static final int ROWS_MOST = 16;
    private static final int ROW_TOP = 600;
    private static final int RULES = 10;

    private Primes primes;
    private Span sieved;
    private Parting parting;
    private PrimeSums primeSums;
    private Progression progression;
    private Rows rows;

    public NumberSieves() {
        // No span, no number that is parted, no rows: what is not made yet is null.
    }

    public int span(long from, int many) {
        if (many < 1 || many > SPAN_MOST || from < 1 || from > TOP - many + 1) {
            return NONE;
        }
        if (sieved == null) {
            sieved = new Span();
        }
        sieved.sieve(from, many, knownPrimes());
        return sieved.primeCount;
    }

    public long least(int i) {
        return sieved == null ? 0 : sieved.leastOf(i);
    }

    public int spanned(int what) {
        if (sieved == null) {
            return what == 4 ? 0 : NONE;
        }
        switch (what) {
            case 0:
                return sieved.primeCount;
            case 1:
                return sieved.gap;
            case 2:
                return sieved.twins;
            case 3:
                return sieved.squareFree;
            case 4:
                return sieved.many;
            default:
                return NONE;
        }
    }

    public int smooth(long b, boolean rough) {
        if (sieved == null || !isInRange(b)) {
            return NONE;
        }
        return rough ? sieved.roughBy(b) : sieved.smoothBy(b);
    }

    public int prime(long n) {
        if (!isInRange(n)) {
            return NONE;
        }
        return knownPrimes().isPrime(n) ? 1 : 0;
    }

    public long next(long n, boolean down) {
        if (!isInRange(n)) {
            return 0;
        }
        return down ? knownPrimes().primeBelow(n) : knownPrimes().primeAbove(n);
    }

    public int part(long n) {
        if (!isInRange(n)) {
            return NONE;
        }
        if (parting == null) {
            parting = new Parting();
        }
        parting.take(n, knownPrimes());
        return parting.many;
    }

    public long parts(int i, int what) {
        if (parting == null) {
            return 0;
        }
        switch (what) {
            case 0:
                return parting.primeOf(i);
            case 1:
                return parting.powerOf(i);
            default:
                return 0;
        }
    }

    public long parted(int what) {
        if (parting == null) {
            return 0;
        }
        switch (what) {
            case 0:
                return parting.number;
            case 1:
                return parting.divisorCount();
            case 2:
                return parting.divisorSum();
            case 3:
                return parting.euler();
            case 4:
                return parting.moebius();
            case 5:
                return parting.primeProduct();
            default:
                return 0;
        }
    }

    public long without(long n) {
        if (parting == null || n < 0 || n > TOP) {
            return NONE;
        }
        return parting.strangersUpTo(n);
    }

    public int count(int n) {
        if (n < 0 || n > COUNT_TOP) {
            return NONE;
        }
        return (int) knownSums().total(n, false);
    }

    public long sum(int n) {
        if (n < 0 || n > COUNT_TOP) {
            return NONE;
        }
        return knownSums().total(n, true);
    }

    public int among(int n, int m, int r) {
        if (n < 0 || n > COUNT_TOP || m < 1 || m > REST_TOP || r < 0 || r >= m) {
            return NONE;
        }
        int common = Sums.commonDivisor(m, r);
        if (common > 1) {
            // All numbers with this rest are multiples of common, so none but common is prime.
            return common <= n && common % m == r && knownPrimes().isPrime(common) ? 1 : 0;
        }
        int two = n >= 2 && 2 % m == r ? 1 : 0;
        return two + oddPrimesLeaving(n, m, r);
    }

    public long floors(int n, int a, int b, int m) {
        if (n < 0 || n > FAR_TOP || a < 0 || a > LINE_TOP || b < 0 || b > LINE_TOP) {
            return NONE;
        }
        if (m < 1 || m > LINE_TOP) {
            return NONE;
        }
        return Sums.floorSum(n, a, b, m);
    }

    public long points(long n) {
        if (n < 0 || n > TOP) {
            return NONE;
        }
        return Sums.pointsUnder(n);
    }

    public int rule(int which) {
        if (which < 0 || which >= RULES) {
            return NONE;
        }
        int row = newRow();
        if (row != NONE) {
            rows.fillByRule(row, which);
        }
        return row;
    }

    public int sheet() {
        return newRow();
    }

    public boolean tell(int row, int n, long v) {
        if (!hasRow(row) || n < 1 || n > ROW_TOP) {
            return false;
        }
        rows.put(row, n, v);
        return true;
    }

    public int product(int a, int b) {
        if (!hasRow(a) || !hasRow(b)) {
            return NONE;
        }
        int row = newRow();
        if (row != NONE) {
            rows.fillByProduct(row, a, b);
        }
        return row;
    }

    public int turned(int a) {
        if (!hasRow(a) || !rows.canTurn(a)) {
            return NONE;
        }
        int row = newRow();
        if (row != NONE) {
            rows.fillTurned(row, a);
        }
        return row;
    }

    public void clear() {
        if (rows != null) {
            rows.many = 0;
        }
    }

    public long at(int row, int n) {
        return hasRow(row) ? rows.look(row, n) : 0;
    }

    public long sumOf(int row, int n) {
        if (!hasRow(row) || n < 0 || n > ROW_TOP) {
            return 0;
        }
        return rows.sumTo(row, n);
    }

    public int same(int a, int b) {
        if (!hasRow(a) || !hasRow(b)) {
            return NONE;
        }
        return rows.firstDifference(a, b);
    }

    public long far(int a, int b, int n) {
        if (!Sums.isFarRule(a) || !Sums.isFarRule(b) || n < 0 || n > FAR_TOP) {
            return 0;
        }
        return Sums.farSum(a, b, n);
    }

    public int about(int what) {
        switch (what) {
            case 0:
                return rows == null ? 0 : rows.many;
            case 1:
                return sieved == null ? 0 : sieved.many;
            case 2:
                return parting == null ? NONE : parting.many;
            default:
                return NONE;
        }
    }

    private static boolean isInRange(long n) {
        return n >= 1 && n <= TOP;
    }

    private Primes knownPrimes() {
        if (primes == null) {
            primes = new Primes();
        }
        return primes;
    }

    private PrimeSums knownSums() {
        if (primeSums == null) {
            primeSums = new PrimeSums();
        }
        return primeSums;
    }

    private boolean hasRow(int row) {
        return rows != null && row >= 0 && row < rows.many;
    }

    private int newRow() {
        if (rows == null) {
            rows = new Rows();
        }
        return rows.addZeros();
    }

    /** Wants m and r without a common divisor: then the odd numbers with rest r go by an even step. */
    private int oddPrimesLeaving(int n, int m, int r) {
        int step = m % 2 == 0 ? m : 2 * m;
        int start = r % 2 == 1 ? r : r + m;
        if (step == 2) {
            return Math.max(0, (int) knownSums().total(n, false) - 1);
        }
        if (progression == null) {
            progression = new Progression();
        }
        return progression.primesOf(start, step, n, knownPrimes());
    }

    /** Marks on the numbers from 0 on, 64 to an element, to keep them small. */
    private static final class Marks {
        private final long[] words;

        Marks(int many) {
            words = new long[many < 1 ? 0 : (many - 1) / 64 + 1];
        }

        void wipe() {
            Arrays.fill(words, 0L);
        }

        void mark(int k) {
            int word = k >> 6;
            if (word >= 0 && word < words.length) {
                words[word] |= 1L << (k & 63);
            }
        }

        /** Marks first, first + step, .. below end: one test for all, as sieves spend their time here. */
        void markEvery(int first, int step, int end) {
            if (first < 0 || step < 1) {
                return;
            }
            int bound = Math.min(end, words.length * 64);
            for (int k = first; k < bound; k += step) {
                words[k >> 6] |= 1L << (k & 63);
            }
        }

        boolean isMarked(int k) {
            int word = k >> 6;
            return word >= 0 && word < words.length && (words[word] >>> (k & 63) & 1L) != 0;
        }

        int tally() {
            int marked = 0;
            for (int i = 0; i < words.length; i++) {
                marked += Long.bitCount(words[i]);
            }
            return marked;
        }
    }

    /** The primes up to 100000: enough to divide out every number up to 10000000000. */
    private static final class Primes {
        private static final int TABLE_TOP = 100000;
        private static final int TABLE_MANY = 9592;

        private final int[] table;
        private int many;

        Primes() {
            table = new int[TABLE_MANY];
            many = 0;
            Marks composite = new Marks(TABLE_TOP + 1);
            keep(2);
            for (int n = 3; n <= TABLE_TOP; n += 2) {
                if (!composite.isMarked(n)) {
                    keep(n);
                    strikeOddMultiples(composite, n);
                }
            }
        }

        private void keep(int p) {
            if (many >= 0 && many < table.length) {
                table[many] = p;
                many++;
            }
        }

        private static void strikeOddMultiples(Marks composite, int p) {
            // A greater p has no multiple left here, and its square would not fit an int.
            if (p < 2 || p > TABLE_TOP / p) {
                return;
            }
            composite.markEvery(p * p, 2 * p, TABLE_TOP + 1);
        }

        /** Prime number i from 0 on; 0 behind the last one. */
        int nth(int i) {
            return i >= 0 && i < many && i < table.length ? table[i] : 0;
        }

        boolean isPrime(long n) {
            if (n < 2) {
                return false;
            }
            for (int i = 0; i < many; i++) {
                long p = nth(i);
                if (p < 2 || p * p > n) {
                    return true;
                }
                if (n % p == 0) {
                    return false;
                }
            }
            return true;
        }

        long primeAbove(long n) {
            for (long v = n + 1; v <= TOP; v++) {
                if (isPrime(v)) {
                    return v;
                }
            }
            return 0;
        }

        long primeBelow(long n) {
            for (long v = n - 1; v >= 2; v--) {
                if (isPrime(v)) {
                    return v;
                }
            }
            return 0;
        }
    }

    /** The span that is sieved: of each number its least and its greatest prime divisor. */
    private static final class Span {
        private final long[] leasts;
        private final long[] greatests;
        private final long[] rests;
        private final Marks squared;
        private long from;
        private int many;
        private int primeCount;
        private int gap;
        private int twins;
        private int squareFree;

        Span() {
            leasts = new long[SPAN_MOST];
            greatests = new long[SPAN_MOST];
            rests = new long[SPAN_MOST];
            squared = new Marks(SPAN_MOST);
            from = 1;
            many = 0;
        }

        void sieve(long start, int length, Primes known) {
            from = start;
            many = Math.max(0, Math.min(length, SPAN_MOST));
            squared.wipe();
            for (int i = 0; i < many; i++) {
                leasts[i] = 0;
                greatests[i] = 0;
                rests[i] = from + i;
            }
            long last = from + many - 1;
            for (int i = 0; i < known.many; i++) {
                long p = known.nth(i);
                if (p < 2 || p * p > last) {
                    break;
                }
                divideAll(p);
            }
            takeRests();
            measure();
        }

        private void divideAll(long p) {
            if (p < 2) {
                return;
            }
            long over = from % p;
            for (long i = over == 0 ? 0 : p - over; i < many; i += p) {
                divideOne((int) i, p);
            }
        }

        private void divideOne(int i, long p) {
            if (i < 0 || i >= many || p < 2) {
                return;
            }
            if (leasts[i] == 0) {
                leasts[i] = p;
            }
            greatests[i] = p;
            long rest = rests[i] / p;
            // 2 to the 34 is above every number of a span.
            for (int k = 0; k < 34 && rest % p == 0; k++) {
                squared.mark(i);
                rest /= p;
            }
            rests[i] = rest;
        }

        /** What is left of a number has no divisor up to the root: it is 1 or a prime. */
        private void takeRests() {
            for (int i = 0; i < many; i++) {
                if (leasts[i] == 0) {
                    leasts[i] = rests[i];
                }
                if (rests[i] > 1 || greatests[i] == 0) {
                    greatests[i] = rests[i];
                }
            }
        }

        private void measure() {
            primeCount = 0;
            gap = 0;
            twins = 0;
            squareFree = many - squared.tally();
            int before = -1;
            for (int i = 0; i < many; i++) {
                if (from + i == 1 || leasts[i] != from + i) {
                    continue;
                }
                primeCount++;
                if (before >= 0) {
                    gap = Math.max(gap, i - before);
                    // No prime lies between twins, so they stand one behind the other.
                    twins += i - before == 2 ? 1 : 0;
                }
                before = i;
            }
        }

        long leastOf(int i) {
            return i >= 0 && i < many ? leasts[i] : 0;
        }

        int smoothBy(long b) {
            int found = 0;
            for (int i = 0; i < many; i++) {
                found += greatests[i] <= b ? 1 : 0;
            }
            return found;
        }

        int roughBy(long b) {
            int found = 0;
            for (int i = 0; i < many; i++) {
                found += from + i == 1 || leasts[i] > b ? 1 : 0;
            }
            return found;
        }
    }

    /** The number that is parted, with its primes and their powers. */
    private static final class Parting {
        // The product of the first eleven primes is above 10000000000.
        private static final int PARTS_MOST = 10;

        private final long[] factors;
        private final int[] powers;
        private long number;
        private int many;

        Parting() {
            factors = new long[PARTS_MOST];
            powers = new int[PARTS_MOST];
            number = 1;
            many = 0;
        }

        void take(long n, Primes known) {
            number = n;
            many = 0;
            long rest = n;
            for (int i = 0; i < known.many; i++) {
                long p = known.nth(i);
                if (p < 2 || p * p > rest) {
                    break;
                }
                int power = 0;
                for (int k = 0; k < 34 && rest % p == 0; k++) {
                    rest /= p;
                    power++;
                }
                if (power > 0) {
                    keep(p, power);
                }
            }
            if (rest > 1) {
                keep(rest, 1);
            }
        }

        private void keep(long p, int power) {
            if (many >= 0 && many < PARTS_MOST) {
                factors[many] = p;
                powers[many] = power;
                many++;
            }
        }

        long primeOf(int i) {
            return i >= 0 && i < many ? factors[i] : 0;
        }

        int powerOf(int i) {
            return i >= 0 && i < many ? powers[i] : 0;
        }

        long divisorCount() {
            long found = 1;
            for (int i = 0; i < many; i++) {
                found *= powers[i] + 1;
            }
            return found;
        }

        long divisorSum() {
            long total = 1;
            for (int i = 0; i < many; i++) {
                long series = 1;
                for (int k = 0; k < powers[i]; k++) {
                    series = series * factors[i] + 1;
                }
                total *= series;
            }
            return total;
        }

        long euler() {
            long found = number;
            for (int i = 0; i < many; i++) {
                long p = factors[i];
                if (p > 1) {
                    found = found / p * (p - 1);
                }
            }
            return found;
        }

        int moebius() {
            int sign = 1;
            for (int i = 0; i < many; i++) {
                sign = powers[i] == 1 ? -sign : 0;
            }
            return sign;
        }

        long primeProduct() {
            long total = 1;
            for (int i = 0; i < many; i++) {
                total *= factors[i];
            }
            return total;
        }

        /** Multiples of each set of its primes are put in or out, by how many primes the set has. */
        long strangersUpTo(long n) {
            long found = 0;
            int sets = 1 << many;
            for (int set = 0; set < sets; set++) {
                long divisor = 1;
                for (int i = 0; i < many; i++) {
                    divisor *= (set >> i & 1) == 1 ? factors[i] : 1;
                }
                if (divisor > 0) {
                    long multiples = n / divisor;
                    found += Integer.bitCount(set) % 2 == 0 ? multiples : -multiples;
                }
            }
            return found;
        }
    }

    /**
     * Primes counted or summed without being found: from all numbers above 1 those are taken off,
     * prime after prime, whose least divisor it is; for every n / i at once.
     */
    private static final class PrimeSums {
        private static final int ROOT_MOST = 1414;

        // low: the totals up to i; high: the totals up to n / i.
        private final long[] low;
        private final long[] high;

        PrimeSums() {
            low = new long[ROOT_MOST + 1];
            high = new long[ROOT_MOST + 1];
        }

        /** Of the primes up to n (at most 2000000) their sum, or how many they are. */
        long total(int n, boolean weighted) {
            if (n < 2) {
                return 0;
            }
            int root = (int) Math.min(Sums.root(n), ROOT_MOST);
            low[0] = 0;
            for (int i = 1; i <= root; i++) {
                low[i] = allAboveOne(i, weighted);
                high[i] = allAboveOne(n / i, weighted);
            }
            for (int p = 2; p <= root; p++) {
                if (low[p] != low[p - 1]) {
                    takeOff(n, root, p, weighted ? p : 1);
                }
            }
            return high[1];
        }

        private static long allAboveOne(long v, boolean weighted) {
            return weighted ? v * (v + 1) / 2 - 1 : v - 1;
        }

        private void takeOff(int n, int root, int p, long weight) {
            if (p < 2 || p > root || root > ROOT_MOST) {
                return;
            }
            long before = low[p - 1];
            int square = p * p;
            int reach = Math.min(root, n / square);
            for (int i = 1; i <= reach; i++) {
                high[i] -= (totalUnder(n, root, i * p) - before) * weight;
            }
            for (int v = root; v >= square; v--) {
                low[v] -= (low[v / p] - before) * weight;
            }
        }

        /** The total up to n / d: below the root of n it stands in the other row. */
        private long totalUnder(int n, int root, int d) {
            if (d < 1) {
                return 0;
            }
            if (d <= root) {
                return high[d];
            }
            int v = n / d;
            return v >= 0 && v <= root ? low[v] : 0;
        }
    }

    /** Sieves the numbers start, start + step, .. alone, for primes that leave a rest. */
    private static final class Progression {
        // The least even step above 2 is 4.
        private static final int TERMS_MOST = COUNT_TOP / 4;

        private final Marks struck;

        Progression() {
            struck = new Marks(TERMS_MOST);
        }

        /** Wants an even step above 2 and an odd start below it without a common divisor. */
        int primesOf(int start, int step, int n, Primes known) {
            if (step < 4 || start < 1 || start > n) {
                return 0;
            }
            int terms = Math.min((n - start) / step + 1, TERMS_MOST);
            struck.wipe();
            if (start == 1) {
                struck.mark(0);
            }
            // Prime number 0 is 2: no term is even.
            for (int i = 1; i < known.many; i++) {
                int p = known.nth(i);
                if (p < 3 || p > n / p) {
                    break;
                }
                if (step % p != 0) {
                    strike(p, start, step, terms);
                }
            }
            return terms - struck.tally();
        }

        private void strike(int p, int start, int step, int terms) {
            if (step < 1 || p < 1) {
                return;
            }
            int v = p * p;
            // The odd multiples of p take every odd rest by step before they come round.
            for (int turn = 0; turn < step && v % step != start; turn++) {
                v += 2 * p;
            }
            struck.markEvery((v - start) / step, p, terms);
        }
    }

    /** Sums that need no state. */
    private static final class Sums {
        /** The root of n (0 .. 10000000000), cut. */
        static long root(long n) {
            long found = 0;
            for (int bit = 16; bit >= 0; bit--) {
                long tried = found | 1L << bit;
                if (tried * tried <= n) {
                    found = tried;
                }
            }
            return found;
        }

        static int commonDivisor(int a, int b) {
            int greater = a;
            int lesser = b;
            // Two turns at least halve the greater one.
            for (int turn = 0; turn < 64 && lesser != 0; turn++) {
                int rest = greater % lesser;
                greater = lesser;
                lesser = rest;
            }
            return greater;
        }

        /**
         * Whole parts of a / m and b / m are summed at once; what is left are the places under a
         * line of less than full slope, which are counted along the other axis, as by Euclid.
         */
        static long floorSum(long n, long a, long b, long m) {
            long total = 0;
            // Two turns at least halve m, which is at most 1000000.
            for (int turn = 0; turn < 64 && m > 0; turn++) {
                total += n * (n - 1) / 2 * (a / m) + n * (b / m);
                a %= m;
                b %= m;
                long height = a * n + b;
                if (height < m) {
                    break;
                }
                n = height / m;
                b = height % m;
                long slope = m;
                m = a;
                a = slope;
            }
            return total;
        }

        /** Places x, y with x up to the root, and with y up to it, less those with both. */
        static long pointsUnder(long n) {
            long root = root(n);
            long found = 0;
            for (long x = 1; x <= root; x++) {
                found += n / x;
            }
            return 2 * found - root * root;
        }

        static boolean isFarRule(int rule) {
            return rule == 0 || rule == 1 || rule == 2 || rule == 9;
        }

        /** As pointsUnder, each place x, y weighed by a(x) b(y). */
        static long farSum(int a, int b, int n) {
            long root = root(n);
            long total = 0;
            for (long d = 1; d <= root; d++) {
                long other = n / d;
                total += ruleAt(a, d) * ruleUpTo(b, other) + ruleAt(b, d) * ruleUpTo(a, other);
            }
            return total - ruleUpTo(a, root) * ruleUpTo(b, root);
        }

        private static long ruleAt(int rule, long n) {
            switch (rule) {
                case 0:
                    return n == 1 ? 1 : 0;
                case 1:
                    return 1;
                case 2:
                    return n;
                default:
                    return n * n;
            }
        }

        private static long ruleUpTo(int rule, long n) {
            switch (rule) {
                case 0:
                    return n >= 1 ? 1 : 0;
                case 1:
                    return n;
                case 2:
                    return n * (n + 1) / 2;
                default:
                    return squaresUpTo(n);
            }
        }

        /** n (n + 1) (2 n + 1) / 6, divided before it is multiplied: the product may go round. */
        private static long squaresUpTo(long n) {
            long half = n * (n + 1) / 2;
            long odd = 2 * n + 1;
            return half % 3 == 0 ? half / 3 * odd : half * (odd / 3);
        }
    }

    /** Up to 16 rows of numbers for 1 .. 600, one behind the other. */
    private static final class Rows {
        private final long[] values;
        private int many;

        Rows() {
            values = new long[ROWS_MOST * ROW_TOP];
            many = 0;
        }

        /** The new row's number; NONE if there are 16. */
        int addZeros() {
            if (many < 0 || many >= ROWS_MOST) {
                return NONE;
            }
            int row = many;
            many++;
            for (int n = 1; n <= ROW_TOP; n++) {
                put(row, n, 0);
            }
            return row;
        }

        private static boolean isPlace(int row, int n) {
            return row >= 0 && row < ROWS_MOST && n >= 1 && n <= ROW_TOP;
        }

        long look(int row, int n) {
            return isPlace(row, n) ? values[row * ROW_TOP + n - 1] : 0;
        }

        void put(int row, int n, long v) {
            if (isPlace(row, n)) {
                values[row * ROW_TOP + n - 1] = v;
            }
        }

        private void increase(int row, int n, long v) {
            put(row, n, look(row, n) + v);
        }

        void fillByRule(int row, int which) {
            put(row, 1, 1);
            for (int n = 2; n <= ROW_TOP; n++) {
                int p = leastDivisor(n);
                int rest = n;
                int k = 0;
                for (int turn = 0; turn < 10 && p > 1 && rest % p == 0; turn++) {
                    rest /= p;
                    k++;
                }
                put(row, n, atPower(which, p, k) * look(row, rest));
            }
        }

        private static int leastDivisor(int n) {
            for (int d = 2; d * d <= n && d <= ROW_TOP; d++) {
                if (n % d == 0) {
                    return d;
                }
            }
            return n;
        }

        /** What a rule tells at p to the k, k above 0. */
        private static long atPower(int which, long p, int k) {
            switch (which) {
                case 1:
                    return 1;
                case 2:
                    return power(p, k);
                case 3:
                    return k == 1 ? -1 : 0;
                case 4:
                    return power(p, k) - power(p, k - 1);
                case 5:
                    return k + 1;
                case 6:
                    return powersUpTo(p, k);
                case 7:
                    return k % 2 == 0 ? 1 : -1;
                case 8:
                    return k == 1 ? 1 : 0;
                case 9:
                    return power(p, 2 * k);
                default:
                    return 0;
            }
        }

        private static long power(long p, int k) {
            long result = 1;
            for (int j = 0; j < k; j++) {
                result *= p;
            }
            return result;
        }

        private static long powersUpTo(long p, int k) {
            long total = 1;
            for (int j = 0; j < k; j++) {
                total = total * p + 1;
            }
            return total;
        }

        /** Wants a row of zeros. */
        void fillByProduct(int row, int a, int b) {
            for (int d = 1; d <= ROW_TOP; d++) {
                long factor = look(a, d);
                for (int e = 1; e <= ROW_TOP / d; e++) {
                    increase(row, d * e, factor * look(b, e));
                }
            }
        }

        boolean canTurn(int a) {
            long first = look(a, 1);
            return first == 1 || first == -1;
        }

        /**
         * Wants a row of zeros and one that is 1 or -1 at 1. When n's turn comes, the row holds
         * there what its lesser numbers bring to the PRODUCT at n; its own must make that 0.
         */
        void fillTurned(int row, int a) {
            long first = look(a, 1);
            put(row, 1, -1);
            for (int n = 1; n <= ROW_TOP; n++) {
                long own = -first * look(row, n);
                put(row, n, own);
                for (int e = 2; e <= ROW_TOP / n; e++) {
                    increase(row, n * e, own * look(a, e));
                }
            }
        }

        long sumTo(int row, int n) {
            long total = 0;
            for (int i = 1; i <= n && i <= ROW_TOP; i++) {
                total += look(row, i);
            }
            return total;
        }

        /** The first n at which two rows part; 0 if they are one. */
        int firstDifference(int a, int b) {
            for (int n = 1; n <= ROW_TOP; n++) {
                if (look(a, n) != look(b, n)) {
                    return n;
                }
            }
            return 0;
        }
    }
}
