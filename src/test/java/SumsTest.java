import java.math.BigInteger;

/** Promises 15, 16 and 26: floors, points, far. */
public final class SumsTest {
    private static final int[] FAR_RULES = {0, 1, 2, 9};

    public static void main(String[] args) {
        Relay x = new Relay();
        floors(x);
        points(x);
        far(x);
        Check.end();
    }

    private static void floors(Relay x) {
        for (int n = 0; n <= 12; n++) {
            for (int a = 0; a <= 12; a++) {
                for (int b = 0; b <= 12; b++) {
                    for (int m = 1; m <= 12; m++) {
                        compareFloors(x, n, a, b, m);
                    }
                }
            }
        }
        Plain.Mixed mixed = new Plain.Mixed(5);
        for (int turn = 0; turn < 2000; turn++) {
            compareFloors(x, (int) mixed.from(0, 3000), (int) mixed.from(0, 1000000), (int) mixed.from(0, 1000000),
                (int) mixed.from(1, 1000000));
        }
        for (int turn = 0; turn < 2000; turn++) {
            compareLargeFloors(x, (int) mixed.from(0, 1000000000), (int) mixed.from(0, 1000000),
                (int) mixed.from(0, 1000000), (int) mixed.from(1, turn % 2 == 0 ? 1000000 : 30));
        }
        compareLargeFloors(x, 1000000000, 1000000, 1000000, 1);
        compareLargeFloors(x, 1000000000, 1000000, 1000000, 1000000);
        compareLargeFloors(x, 1000000000, 999999, 999999, 1000000);
        compareLargeFloors(x, 1000000000, 832040, 514229, 514229);
        compareLargeFloors(x, 1000000000, 514229, 0, 832040);
        compareLargeFloors(x, 1000000000, 0, 0, 1);
        compareLargeFloors(x, 1000000000, 0, 1000000, 7);
        int[][] wrong = {{-1, 1, 1, 1}, {1000000001, 1, 1, 1}, {1, -1, 1, 1}, {1, 1000001, 1, 1}, {1, 1, -1, 1},
            {1, 1, 1000001, 1}, {1, 1, 1, 0}, {1, 1, 1, -1}, {1, 1, 1, 1000001}, {0, 0, 0, 0},
            {Integer.MAX_VALUE, 1, 1, 1}, {Integer.MIN_VALUE, 1, 1, 1}, {1, Integer.MIN_VALUE, 1, 1},
            {1, 1, Integer.MIN_VALUE, 1}, {1, 1, 1, Integer.MIN_VALUE}, {1, 1, 1, Integer.MAX_VALUE}};
        for (int[] w : wrong) {
            Check.due("floors by wrong numbers", x.floors(w[0], w[1], w[2], w[3]), -1);
        }
    }

    private static void compareFloors(Relay x, int n, int a, int b, int m) {
        long want = 0;
        for (long k = 0; k < n; k++) {
            want += (a * k + b) / m;
        }
        Check.due("floors(" + n + ", " + a + ", " + b + ", " + m + ")", x.floors(n, a, b, m), want);
    }

    /** Over whole periods of m the rests are known: all of them but for a common divisor. */
    private static void compareLargeFloors(Relay x, int n, int a, int b, int m) {
        BigInteger rests = BigInteger.ZERO;
        long period = 0;
        int over = n % m;
        for (long k = 0; k < m; k++) {
            long rest = (a * k + b) % m;
            period += rest;
            if (k < over) {
                rests = rests.add(BigInteger.valueOf(rest));
            }
        }
        rests = rests.add(BigInteger.valueOf(period).multiply(BigInteger.valueOf(n / m)));
        BigInteger big = BigInteger.valueOf(n);
        BigInteger full = big.multiply(BigInteger.valueOf(n - 1L)).shiftRight(1).multiply(BigInteger.valueOf(a))
            .add(big.multiply(BigInteger.valueOf(b)));
        long want = full.subtract(rests).divide(BigInteger.valueOf(m)).longValue();
        Check.due("floors(" + n + ", " + a + ", " + b + ", " + m + ")", x.floors(n, a, b, m), want);
    }

    private static void points(Relay x) {
        long want = 0;
        for (int n = 0; n <= 3000; n++) {
            for (int d = 1; d <= n; d++) {
                want += n % d == 0 ? 1 : 0;
            }
            Check.due("points(" + n + ")", x.points(n), want);
        }
        Plain.Mixed mixed = new Plain.Mixed(6);
        for (int turn = 0; turn < 10; turn++) {
            comparePoints(x, mixed.from(0, 3000000));
        }
        comparePoints(x, 9999999);
        comparePoints(x, 10000000);
        // Sums of divisor counts up to powers of ten (OEIS A057494).
        Check.due("points(10^8)", x.points(100000000L), 1857511568L);
        Check.due("points(10^9)", x.points(1000000000L), 20877697634L);
        Check.due("points(10^10)", x.points(10000000000L), 231802823220L);
        Check.due("points(10^10 - 1)", x.points(9999999999L), 231802823220L - 121);
        long[] wrong = {-1, 10000000001L, Long.MAX_VALUE, Long.MIN_VALUE};
        for (long n : wrong) {
            Check.due("points(" + n + ")", x.points(n), -1);
        }
    }

    private static void comparePoints(Relay x, long n) {
        long want = 0;
        for (long y = 1; y <= n; y++) {
            want += n / y;
        }
        Check.due("points(" + n + ")", x.points(n), want);
    }

    private static void far(Relay x) {
        for (int a : FAR_RULES) {
            for (int b : FAR_RULES) {
                farBySteps(x, a, b);
                farByBigNumbers(x, a, b, 1000000);
                farByBigNumbers(x, a, b, 999999);
                farByBigNumbers(x, a, b, 2345678);
                farAtTheTop(x, a, b, 1000000000);
                farAtTheTop(x, a, b, 999999999);
            }
        }
        for (int rule = -1; rule <= 11; rule++) {
            boolean counts = rule == 0 || rule == 1 || rule == 2 || rule == 9;
            Check.due("far(" + rule + ", 1, 1)", x.far(rule, 1, 1), counts ? 1 : 0);
            Check.due("far(1, " + rule + ", 1)", x.far(1, rule, 1), counts ? 1 : 0);
        }
        int[] wrong = {-1, 1000000001, Integer.MAX_VALUE, Integer.MIN_VALUE};
        for (int n : wrong) {
            Check.due("far(1, 1, " + n + ")", x.far(1, 1, n), 0);
            Check.due("far(" + (n == 1 ? 3 : n) + ", 1, 5)", x.far(n, 1, 5), 0);
        }
    }

    private static long at(int rule, long n) {
        return rule == 0 ? n == 1 ? 1 : 0 : rule == 1 ? 1 : rule == 2 ? n : n * n;
    }

    private static void farBySteps(Relay x, int a, int b) {
        long want = 0;
        for (int n = 0; n <= 700; n++) {
            for (int d = 1; d <= n; d++) {
                want += n % d == 0 ? at(a, d) * at(b, n / d) : 0;
            }
            Check.due("far(" + a + ", " + b + ", " + n + ")", x.far(a, b, n), want);
        }
    }

    /** One term for each d, with no turn at the root. */
    private static void farByBigNumbers(Relay x, int a, int b, int n) {
        BigInteger want = BigInteger.ZERO;
        for (long d = 1; d <= n; d++) {
            if (at(a, d) != 0) {
                want = want.add(BigInteger.valueOf(at(a, d)).multiply(Plain.ruleUpTo(b, n / d)));
            }
        }
        Check.due("far(" + a + ", " + b + ", " + n + ")", x.far(a, b, n), want.longValue());
    }

    /** Runs of d with the same n / d, exactly, and cut to 64 bits at the end alone. */
    private static void farAtTheTop(Relay x, int a, int b, int n) {
        BigInteger want = BigInteger.ZERO;
        for (long d = 1; d <= n;) {
            long other = n / d;
            long last = n / other;
            BigInteger run = Plain.ruleUpTo(a, last).subtract(Plain.ruleUpTo(a, d - 1));
            want = want.add(run.multiply(Plain.ruleUpTo(b, other)));
            d = last + 1;
        }
        Check.due("far(" + a + ", " + b + ", " + n + ")", x.far(a, b, n), want.longValue());
    }
}
