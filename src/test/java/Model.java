import java.math.BigInteger;
import java.util.ArrayList;
import java.util.Arrays;
import java.util.List;
import java.util.TreeSet;
import java.util.function.LongPredicate;

/** The document told again, slowly and plainly, with its state, to compare runs of calls with. */
final class Model {
    private static final int NONE = -1;
    private static final long TOP = Plain.TOP;
    private static final int ROW_TOP = 600;
    private static final long[][] RULES = rules();

    // Of each number of the span its primes, rising, each as often as it divides; null: no span.
    private long[][] spanPrimes = null;
    // 0: no number is parted.
    private long number = 0;
    private final List<long[]> rows = new ArrayList<>();

    private static long[][] rules() {
        long[][] rules = new long[10][ROW_TOP + 1];
        for (int which = 0; which < rules.length; which++) {
            for (int n = 1; n <= ROW_TOP; n++) {
                rules[which][n] = Plain.rule(which, n);
            }
        }
        return rules;
    }

    private static boolean isWithin(long low, long n, long high) {
        return low <= n && n <= high;
    }

    private static long[] primesOf(long n) {
        long[] primes = new long[34];
        int many = 0;
        long rest = n;
        for (int i = 0; (long) PrimeTable.LIST[i] * PrimeTable.LIST[i] <= rest; i++) {
            for (; rest % PrimeTable.LIST[i] == 0; rest /= PrimeTable.LIST[i]) {
                primes[many] = PrimeTable.LIST[i];
                many++;
            }
        }
        if (rest > 1) {
            primes[many] = rest;
            many++;
        }
        return Arrays.copyOf(primes, many);
    }

    private static boolean isPrime(long n) {
        return primesOf(n).length == 1;
    }

    long span(long from, int many) {
        if (!isWithin(1, many, 5000) || !isWithin(1, from, TOP) || !isWithin(1, from + many - 1, TOP)) {
            return NONE;
        }
        spanPrimes = new long[many][];
        for (int i = 0; i < many; i++) {
            spanPrimes[i] = primesOf(from + i);
        }
        return spanned(0);
    }

    int numbers() {
        return spanPrimes == null ? 0 : spanPrimes.length;
    }

    long least(int i) {
        if (!isWithin(0, i, numbers() - 1)) {
            return 0;
        }
        return spanPrimes[i].length == 0 ? 1 : spanPrimes[i][0];
    }

    private boolean isPrimeAt(int i) {
        return i < spanPrimes.length && spanPrimes[i].length == 1;
    }

    long spanned(int what) {
        if (what == 4) {
            return numbers();
        }
        if (spanPrimes == null || !isWithin(0, what, 3)) {
            return NONE;
        }
        int[] found = new int[4];
        int before = -1;
        for (int i = 0; i < spanPrimes.length; i++) {
            found[3] += Arrays.stream(spanPrimes[i]).distinct().count() == spanPrimes[i].length ? 1 : 0;
            if (isPrimeAt(i)) {
                found[0]++;
                found[1] = Math.max(found[1], before < 0 ? 0 : i - before);
                found[2] += isPrimeAt(i + 2) ? 1 : 0;
                before = i;
            }
        }
        return found[what];
    }

    long smooth(long b, boolean rough) {
        if (spanPrimes == null || !isWithin(1, b, TOP)) {
            return NONE;
        }
        LongPredicate asWanted = rough ? p -> p > b : p -> p <= b;
        return Arrays.stream(spanPrimes).filter(primes -> Arrays.stream(primes).allMatch(asWanted)).count();
    }

    long prime(long n) {
        return !isWithin(1, n, TOP) ? NONE : isPrime(n) ? 1 : 0;
    }

    long next(long n, boolean down) {
        if (!isWithin(1, n, TOP)) {
            return 0;
        }
        long step = down ? -1 : 1;
        for (long v = n + step; isWithin(1, v, TOP); v += step) {
            if (isPrime(v)) {
                return v;
            }
        }
        return 0;
    }

    long part(long n) {
        if (!isWithin(1, n, TOP)) {
            return NONE;
        }
        number = n;
        return distinctPrimes().length;
    }

    private long[] distinctPrimes() {
        return Arrays.stream(primesOf(number)).distinct().toArray();
    }

    long parts(int i, int what) {
        if (number == 0 || !isWithin(0, i, distinctPrimes().length - 1) || !isWithin(0, what, 1)) {
            return 0;
        }
        long p = distinctPrimes()[i];
        return what == 0 ? p : Arrays.stream(primesOf(number)).filter(q -> q == p).count();
    }

    long parted(int what) {
        if (number == 0) {
            return 0;
        }
        long[] primes = primesOf(number);
        switch (what) {
            case 0:
                return number;
            case 1:
                return divisors().size();
            case 2:
                return divisors().stream().mapToLong(Long::longValue).sum();
            case 3:
                return strangers(number, distinctPrimes(), 0);
            case 4:
                return distinctPrimes().length < primes.length ? 0 : primes.length % 2 == 0 ? 1 : -1;
            case 5:
                return Arrays.stream(distinctPrimes()).reduce(1, (p, q) -> p * q);
            default:
                return 0;
        }
    }

    private TreeSet<Long> divisors() {
        TreeSet<Long> divisors = new TreeSet<>(List.of(1L));
        for (long p : primesOf(number)) {
            for (long d : divisors.toArray(new Long[0])) {
                divisors.add(d * p);
            }
        }
        return divisors;
    }

    /** Numbers up to n that none of the primes from place i on divides. */
    private static long strangers(long n, long[] primes, int i) {
        return i == primes.length ? n : strangers(n, primes, i + 1) - strangers(n / primes[i], primes, i + 1);
    }

    long without(long n) {
        return number == 0 || !isWithin(0, n, TOP) ? NONE : strangers(n, distinctPrimes(), 0);
    }

    long count(int n) {
        return isWithin(0, n, PrimeTable.TOP) ? PrimeTable.COUNT[n] : NONE;
    }

    long sum(int n) {
        return isWithin(0, n, PrimeTable.TOP) ? PrimeTable.SUM[n] : NONE;
    }

    long among(int n, int m, int r) {
        if (!isWithin(0, n, PrimeTable.TOP) || !isWithin(1, m, 60) || !isWithin(0, r, m - 1)) {
            return NONE;
        }
        return Arrays.stream(PrimeTable.LIST).takeWhile(p -> p <= n).filter(p -> p % m == r).count();
    }

    /** With k = q m + r the part cut off does not depend on q. */
    long floors(int n, int a, int b, int m) {
        boolean isLine = isWithin(0, a, 1000000) && isWithin(0, b, 1000000) && isWithin(1, m, 1000000);
        if (!isLine || !isWithin(0, n, 1000000000)) {
            return NONE;
        }
        long total = 0;
        for (long r = 0; r < m && r < n; r++) {
            long turns = (n - 1 - r) / m + 1;
            total += turns * ((a * r + b) / m) + turns * (turns - 1) / 2 * a;
        }
        return total;
    }

    long points(long n) {
        if (!isWithin(0, n, TOP)) {
            return NONE;
        }
        long total = 0;
        for (long x = 1; x <= n; x = n / (n / x) + 1) {
            total += (n / (n / x) - x + 1) * (n / x);
        }
        return total;
    }

    private long made(long[] row) {
        if (rows.size() == 16) {
            return NONE;
        }
        rows.add(row);
        return rows.size() - 1;
    }

    private boolean hasRow(int row) {
        return isWithin(0, row, rows.size() - 1);
    }

    int rowCount() {
        return rows.size();
    }

    long rule(int which) {
        return isWithin(0, which, 9) ? made(RULES[which].clone()) : NONE;
    }

    long sheet() {
        return made(new long[ROW_TOP + 1]);
    }

    boolean tell(int row, int n, long v) {
        if (!hasRow(row) || !isWithin(1, n, ROW_TOP)) {
            return false;
        }
        rows.get(row)[n] = v;
        return true;
    }

    long product(int a, int b) {
        if (!hasRow(a) || !hasRow(b)) {
            return NONE;
        }
        long[] row = new long[ROW_TOP + 1];
        for (int n = 1; n <= ROW_TOP; n++) {
            row[n] = Plain.product(rows.get(a), rows.get(b), n);
        }
        return made(row);
    }

    long turned(int a) {
        if (!hasRow(a) || Math.abs(rows.get(a)[1]) != 1) {
            return NONE;
        }
        long[] row = new long[ROW_TOP + 1];
        for (int n = 1; n <= ROW_TOP; n++) {
            long due = RULES[0][n] - Plain.product(row, rows.get(a), n);
            row[n] = due * rows.get(a)[1];
        }
        return made(row);
    }

    void clear() {
        rows.clear();
    }

    long at(int row, int n) {
        return hasRow(row) && isWithin(1, n, ROW_TOP) ? rows.get(row)[n] : 0;
    }

    long sumOf(int row, int n) {
        return hasRow(row) && isWithin(0, n, ROW_TOP) ? Arrays.stream(rows.get(row), 0, n + 1).sum() : 0;
    }

    long same(int a, int b) {
        return hasRow(a) && hasRow(b) ? Math.max(0, Arrays.mismatch(rows.get(a), rows.get(b))) : NONE;
    }

    long far(int a, int b, int n) {
        List<Integer> farRules = List.of(0, 1, 2, 9);
        if (!farRules.contains(a) || !farRules.contains(b) || !isWithin(0, n, 1000000000)) {
            return 0;
        }
        BigInteger total = BigInteger.ZERO;
        for (int d = 1; d <= n; d = n / (n / d) + 1) {
            BigInteger block = Plain.ruleUpTo(a, n / (n / d)).subtract(Plain.ruleUpTo(a, d - 1));
            total = total.add(block.multiply(Plain.ruleUpTo(b, n / d)));
        }
        return total.longValue();
    }

    long about(int what) {
        switch (what) {
            case 0:
                return rows.size();
            case 1:
                return numbers();
            case 2:
                return number == 0 ? NONE : distinctPrimes().length;
            default:
                return NONE;
        }
    }
}
