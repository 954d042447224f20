/** Promises 6 and 7: prime, next. */
public final class PrimeTest {
    private static final long TOP = Plain.TOP;

    public static void main(String[] args) {
        Relay x = new Relay();
        for (int n = 1; n <= 20000; n++) {
            Check.due("prime(" + n + ")", x.prime(n), Plain.isPrime(n) ? 1 : 0);
        }
        Plain.Mixed mixed = new Plain.Mixed(2);
        for (int turn = 0; turn < 2000; turn++) {
            compare(x, mixed.from(1, TOP));
        }
        long[] special = {9999999967L, 9999999966L, 9999999968L, 9998200081L, 99991L * 99989L, 2147483647L,
            2147483648L, 4294967291L, 4294967296L, 3215031751L, 10000600009L, TOP, TOP - 1, 1, 2, 3, 4, 5,
            99991, 100000, 100003, 4302407359L, 4302407713L, 20831323, 20831533};
        for (long n : special) {
            compare(x, n);
        }
        for (long n = 1; n <= 3000; n++) {
            compare(x, n);
        }
        Check.due("next(1, true)", x.next(1, true), 0);
        Check.due("next(2, true)", x.next(2, true), 0);
        Check.due("next(3, true)", x.next(3, true), 2);
        Check.due("next(1, false)", x.next(1, false), 2);
        Check.due("next(TOP, false)", x.next(TOP, false), 0);
        Check.due("next(TOP, true)", x.next(TOP, true), 9999999967L);
        Check.due("next(9999999967, false)", x.next(9999999967L, false), 0);
        Check.due("next(9999999966, false)", x.next(9999999966L, false), 9999999967L);
        Check.due("next(4302407359, false)", x.next(4302407359L, false), 4302407713L);
        long[] wrong = {0, -1, -7, TOP + 1, TOP + 2, Long.MAX_VALUE, Long.MIN_VALUE};
        for (long n : wrong) {
            compare(x, n);
        }
        Check.end();
    }

    private static void compare(Relay x, long n) {
        boolean counts = n >= 1 && n <= TOP;
        Check.due("prime(" + n + ")", x.prime(n), counts ? Plain.isPrime(n) ? 1 : 0 : -1);
        Check.due("next(" + n + ", false)", x.next(n, false), counts ? walk(n, 1) : 0);
        Check.due("next(" + n + ", true)", x.next(n, true), counts ? walk(n, -1) : 0);
    }

    private static long walk(long n, int step) {
        for (long v = n + step; v >= 1 && v <= TOP; v += step) {
            if (Plain.isPrime(v)) {
                return v;
            }
        }
        return 0;
    }
}
