import java.util.Arrays;

/** The primes up to 2000000, struck out one by one, with how many there are up to each number and their sum. */
final class PrimeTable {
    static final int TOP = 2000000;
    static final boolean[] PRIME = struckOut();
    static final int[] COUNT = new int[TOP + 1];
    static final long[] SUM = new long[TOP + 1];
    static final int[] LIST = listed();

    private PrimeTable() {
    }

    private static boolean[] struckOut() {
        boolean[] prime = new boolean[TOP + 1];
        Arrays.fill(prime, 2, TOP + 1, true);
        for (int p = 2; p * p <= TOP; p++) {
            for (int v = p * p; prime[p] && v <= TOP; v += p) {
                prime[v] = false;
            }
        }
        return prime;
    }

    private static int[] listed() {
        int[] list = new int[TOP];
        int many = 0;
        for (int n = 1; n <= TOP; n++) {
            SUM[n] = SUM[n - 1] + (PRIME[n] ? n : 0);
            if (PRIME[n]) {
                list[many] = n;
                many++;
            }
            COUNT[n] = many;
        }
        return Arrays.copyOf(list, many);
    }
}
