/** Promises 8 to 11: part, parts, parted, without. */
public final class PartTest {
    private static final long TOP = Plain.TOP;

    public static void main(String[] args) {
        withoutNumber();
        wrongNumbersLeaveTheFormerOne();
        Relay x = new Relay();
        for (int n = 1; n <= 1500; n++) {
            compare(x, n);
            compareByCounting(x, n);
        }
        Plain.Mixed mixed = new Plain.Mixed(3);
        for (int turn = 0; turn < 300; turn++) {
            compare(x, mixed.from(1, TOP));
        }
        long[] special = {TOP, TOP - 1, 6469693230L, 6983776800L, 9777287520L, 8589934592L, 3486784401L,
            9765625, 9998200081L, 99991L * 99989L, 9999999967L, 2 * 4999999937L, 4294967296L, 2147483647L,
            99991, 7420738134810L / 1000, 1, 2};
        for (long n : special) {
            compare(x, n);
        }
        withoutAtLargeEdges(x);
        Check.end();
    }

    private static void withoutNumber() {
        Relay x = new Relay();
        for (int what = -1; what <= 6; what++) {
            Check.due("parted(" + what + ") without one", x.parted(what), 0);
            Check.due("parts(0, " + what + ") without one", x.parts(0, what), 0);
        }
        Check.due("without(0) without one", x.without(0), -1);
        Check.due("without(5) without one", x.without(5), -1);
        Check.due("about(2) without one", x.about(2), -1);
        Check.due("part(0)", x.part(0), -1);
        Check.due("about(2) after a wrong one", x.about(2), -1);
    }

    private static void wrongNumbersLeaveTheFormerOne() {
        Relay x = new Relay();
        Check.due("part(84)", x.part(84), 3);
        long[] wrong = {0, -1, TOP + 1, Long.MAX_VALUE, Long.MIN_VALUE};
        for (long n : wrong) {
            Check.due("part(" + n + ")", x.part(n), -1);
            Check.due("parted(0) stays", x.parted(0), 84);
            Check.due("parts(0, 1) stays", x.parts(0, 1), 2);
            Check.due("about(2) stays", x.about(2), 3);
        }
        long[] wrongBounds = {-1, TOP + 1, Long.MAX_VALUE, Long.MIN_VALUE};
        for (long n : wrongBounds) {
            Check.due("without(" + n + ")", x.without(n), -1);
        }
        int[] odd = {-1, 3, 10, 11, Integer.MAX_VALUE, Integer.MIN_VALUE};
        for (int i : odd) {
            Check.due("parts(" + i + ", 0)", x.parts(i, 0), 0);
            Check.due("parts(" + i + ", 1)", x.parts(i, 1), 0);
        }
        int[] whats = {-1, 2, Integer.MAX_VALUE, Integer.MIN_VALUE};
        for (int what : whats) {
            Check.due("parts(0, " + what + ")", x.parts(0, what), 0);
        }
        int[] more = {-1, 6, Integer.MAX_VALUE, Integer.MIN_VALUE};
        for (int what : more) {
            Check.due("parted(" + what + ")", x.parted(what), 0);
        }
    }

    private static void compare(Relay x, long n) {
        String told = "after part(" + n + "): ";
        int found = x.part(n);
        long rest = n;
        int parts = 0;
        long divisors = 1;
        long divisorSum = 1;
        long euler = n;
        long moebius = 1;
        long product = 1;
        while (rest > 1) {
            long p = Plain.leastDivisor(rest);
            int k = 0;
            long series = 1;
            while (rest % p == 0) {
                rest /= p;
                k++;
                series = series * p + 1;
            }
            Check.due(told + "parts(" + parts + ", 0)", x.parts(parts, 0), p);
            Check.due(told + "parts(" + parts + ", 1)", x.parts(parts, 1), k);
            parts++;
            divisors *= k + 1;
            divisorSum *= series;
            euler = euler / p * (p - 1);
            moebius = k == 1 ? -moebius : 0;
            product *= p;
        }
        Check.due("part(" + n + ")", found, parts);
        Check.due(told + "about(2)", x.about(2), parts);
        Check.due(told + "parts(" + parts + ", 0)", x.parts(parts, 0), 0);
        Check.due(told + "parts(" + parts + ", 1)", x.parts(parts, 1), 0);
        Check.due(told + "parts(-1, 0)", x.parts(-1, 0), 0);
        long[] want = {n, divisors, divisorSum, euler, moebius, product};
        for (int what = 0; what < want.length; what++) {
            Check.due(told + "parted(" + what + ")", x.parted(what), want[what]);
        }
        Check.due(told + "without it", x.without(n), euler);
        Check.due(told + "without(0)", x.without(0), 0);
        Check.due(told + "without(1)", x.without(1), 1);
        int small = 0;
        for (int v = 1; v <= 200; v++) {
            small += Plain.gcd(v, n) == 1 ? 1 : 0;
            Check.due(told + "without(" + v + ")", x.without(v), small);
        }
    }

    private static void compareByCounting(Relay x, int n) {
        long divisors = 0;
        long divisorSum = 0;
        long strangers = 0;
        for (int d = 1; d <= n; d++) {
            divisors += n % d == 0 ? 1 : 0;
            divisorSum += n % d == 0 ? d : 0;
            strangers += Plain.gcd(n, d) == 1 ? 1 : 0;
        }
        Check.due("divisors of " + n, x.parted(1), divisors);
        Check.due("their sum of " + n, x.parted(2), divisorSum);
        Check.due("strangers of " + n, x.parted(3), strangers);
    }

    private static void withoutAtLargeEdges(Relay x) {
        x.part(1);
        Check.due("without(TOP) by 1", x.without(TOP), TOP);
        x.part(TOP);
        Check.due("without(TOP) by TOP", x.without(TOP), 4000000000L);
        x.part(9999999967L);
        Check.due("without(TOP) by its greatest prime", x.without(TOP), TOP - 1);
        x.part(6469693230L);
        Check.due("without(6469693230) by it", x.without(6469693230L), 1021870080L);
        // 6469693230 and what is above it: the same rests come again.
        Check.due("without(6469693330) by it", x.without(6469693330L), 1021870080L + x.without(100));
    }
}
