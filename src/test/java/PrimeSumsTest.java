/** Promises 12 to 14: count, sum, among. */
public final class PrimeSumsTest {
    private static final int TOP = PrimeTable.TOP;

    public static void main(String[] args) {
        Relay x = new Relay();
        for (int n = 0; n <= 6000; n++) {
            compare(x, n);
        }
        Plain.Mixed mixed = new Plain.Mixed(4);
        for (int turn = 0; turn < 500; turn++) {
            compare(x, (int) mixed.from(0, TOP));
        }
        for (int root = 70; root <= 1414; root += 7) {
            compare(x, root * root - 1);
            compare(x, root * root);
            compare(x, Math.min(root * (root + 1), TOP));
        }
        int[] edges = {TOP, TOP - 1, 1414 * 1414, 1414 * 1414 - 1, 1999993, 1999992};
        for (int n : edges) {
            compare(x, n);
        }
        int[] wrong = {-1, TOP + 1, Integer.MAX_VALUE, Integer.MIN_VALUE};
        for (int n : wrong) {
            Check.due("count(" + n + ")", x.count(n), -1);
            Check.due("sum(" + n + ")", x.sum(n), -1);
            Check.due("among(" + n + ", 1, 0)", x.among(n, 1, 0), -1);
            Check.due("among(100, " + n + ", 0)", x.among(100, n, 0), -1);
            Check.due("among(100, 7, " + n + ")", x.among(100, 7, n), -1);
        }
        rests(x, mixed);
        Check.end();
    }

    private static void compare(Relay x, int n) {
        Check.due("count(" + n + ")", x.count(n), PrimeTable.COUNT[n]);
        Check.due("sum(" + n + ")", x.sum(n), PrimeTable.SUM[n]);
    }

    private static void rests(Relay x, Plain.Mixed mixed) {
        int[] bounds = {0, 1, 2, 3, 4, 5, 6, 7, 8, 9, 10, 24, 25, 26, 48, 49, 50, 58, 59, 60, 61, 100, 120, 121, 122,
            168, 169, 1000, 3480, 3481, 3482, (int) mixed.from(1000, 100000), (int) mixed.from(1000, TOP), TOP - 1,
            TOP};
        for (int n : bounds) {
            for (int m = 1; m <= 60; m++) {
                int[] due = new int[m];
                for (int p = 2; p <= n; p++) {
                    due[p % m] += PrimeTable.PRIME[p] ? 1 : 0;
                }
                for (int r = 0; r < m; r++) {
                    Check.due("among(" + n + ", " + m + ", " + r + ")", x.among(n, m, r), due[r]);
                }
                Check.due("among(" + n + ", " + m + ", m)", x.among(n, m, m), -1);
                Check.due("among(" + n + ", " + m + ", -1)", x.among(n, m, -1), -1);
            }
            Check.due("among(" + n + ", 0, 0)", x.among(n, 0, 0), -1);
            Check.due("among(" + n + ", 61, 0)", x.among(n, 61, 0), -1);
        }
    }
}
