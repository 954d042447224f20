import java.math.BigInteger;

/** Slow and plain answers to compare with, made another way than in the class. */
final class Plain {
    static final long TOP = 10000000000L;

    private Plain() {
    }

    static boolean isPrime(long n) {
        if (n < 1000000) {
            return n > 1 && leastDivisor(n) == n;
        }
        return BigInteger.valueOf(n).isProbablePrime(60);
    }

    static long leastDivisor(long n) {
        for (long d = 2; d * d <= n; d++) {
            if (n % d == 0) {
                return d;
            }
        }
        return n;
    }

    static long greatestPrime(long n) {
        long greatest = 1;
        long rest = n;
        while (rest > 1) {
            long p = leastDivisor(rest);
            greatest = Math.max(greatest, p);
            rest /= p;
        }
        return greatest;
    }

    static boolean isSquareFree(long n) {
        long rest = n;
        while (rest > 1) {
            long p = leastDivisor(rest);
            rest /= p;
            if (rest % p == 0) {
                return false;
            }
        }
        return true;
    }

    static long gcd(long a, long b) {
        return b == 0 ? a : gcd(b, a % b);
    }

    /** What rule `which` tells at n, by divisors and not by powers where that can be done. */
    static long rule(int which, int n) {
        long divisors = 0;
        long divisorSum = 0;
        long strangers = 0;
        for (int d = 1; d <= n; d++) {
            if (n % d == 0) {
                divisors++;
                divisorSum += d;
            }
            strangers += gcd(n, d) == 1 ? 1 : 0;
        }
        int primes = 0;
        for (long rest = n; rest > 1; rest /= leastDivisor(rest)) {
            primes++;
        }
        long sign = primes % 2 == 0 ? 1 : -1;
        boolean free = isSquareFree(n);
        long[] told = {n == 1 ? 1 : 0, 1, n, free ? sign : 0, strangers, divisors, divisorSum, sign,
            free ? 1 : 0, (long) n * n};
        return told[which];
    }

    /** The sum of one of the rules 0, 1, 2 and 9 over all numbers to n. */
    static BigInteger ruleUpTo(int rule, long n) {
        BigInteger big = BigInteger.valueOf(n);
        BigInteger above = big.add(BigInteger.ONE);
        BigInteger odd = big.add(above);
        switch (rule) {
            case 0:
                return n > 0 ? BigInteger.ONE : BigInteger.ZERO;
            case 1:
                return big;
            case 2:
                return big.multiply(above).divide(BigInteger.valueOf(2));
            default:
                return big.multiply(above).multiply(odd).divide(BigInteger.valueOf(6));
        }
    }

    static long product(long[] a, long[] b, int n) {
        long total = 0;
        for (int d = 1; d <= n; d++) {
            if (n % d == 0) {
                total += a[d] * b[n / d];
            }
        }
        return total;
    }

    /** A fixed row of numbers without order, the same in every run. */
    static final class Mixed {
        private long state;

        Mixed(long seed) {
            state = seed;
        }

        long any() {
            state = state * 6364136223846793005L + 1442695040888963407L;
            long x = state ^ state >>> 29;
            return x * 0xBF58476D1CE4E5B9L ^ x >>> 32;
        }

        long from(long low, long high) {
            return low + Math.floorMod(any(), high - low + 1);
        }
    }
}
