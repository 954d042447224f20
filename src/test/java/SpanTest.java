/** Promises 1 to 5: span, least, spanned, smooth. */
public final class SpanTest {
    private static final long TOP = Plain.TOP;

    public static void main(String[] args) {
        withoutSpan();
        wrongSpansLeaveTheFormerOne();
        edges();
        Plain.Mixed mixed = new Plain.Mixed(1);
        Relay x = new Relay();
        whole(x, 1, 1);
        whole(x, 1, 2000);
        whole(x, 2, 1);
        whole(x, 113, 15);
        whole(x, 114, 13);
        whole(x, 3, 3);
        whole(x, 3, 2);
        whole(x, 4, 1);
        whole(x, 999999937L, 40);
        whole(x, 4294967290L, 30);
        whole(x, TOP, 1);
        whole(x, TOP - 99, 100);
        whole(x, 9998200081L, 1);
        whole(x, 9999999967L, 1);
        whole(x, 8589934592L, 1);
        for (int turn = 0; turn < 40; turn++) {
            int many = (int) mixed.from(1, 60);
            whole(x, mixed.from(1, TOP - many + 1), many);
        }
        whole(x, 1000, 5000);
        large();
        Check.end();
    }

    private static void withoutSpan() {
        Relay x = new Relay();
        for (int what = -2; what <= 6; what++) {
            Check.due("spanned(" + what + ") without a span", x.spanned(what), what == 4 ? 0 : -1);
        }
        Check.due("least(0) without a span", x.least(0), 0);
        Check.due("smooth(5, false) without a span", x.smooth(5, false), -1);
        Check.due("smooth(5, true) without a span", x.smooth(5, true), -1);
        Check.due("span(0, 1)", x.span(0, 1), -1);
        Check.due("spanned(4) after a wrong span", x.spanned(4), 0);
        Check.due("spanned(0) after a wrong span", x.spanned(0), -1);
    }

    private static void wrongSpansLeaveTheFormerOne() {
        Relay x = new Relay();
        Check.due("span(10, 10)", x.span(10, 10), 4);
        long[] froms = {0, -1, Long.MIN_VALUE, Long.MAX_VALUE, TOP + 1, TOP, TOP - 4998, 1, 1, 1, 1, 1};
        int[] manies = {1, 1, 5000, 5000, 1, 2, 5000, 0, -1, 5001, Integer.MAX_VALUE, Integer.MIN_VALUE};
        for (int i = 0; i < froms.length; i++) {
            Check.due("span(" + froms[i] + ", " + manies[i] + ")", x.span(froms[i], manies[i]), -1);
            compareWhole(x, 10, 10);
        }
        long[] wrong = {0, -1, TOP + 1, Long.MAX_VALUE, Long.MIN_VALUE};
        for (long b : wrong) {
            Check.due("smooth(" + b + ", false)", x.smooth(b, false), -1);
            Check.due("smooth(" + b + ", true)", x.smooth(b, true), -1);
        }
        int[] places = {-1, 10, Integer.MAX_VALUE, Integer.MIN_VALUE, 5000, 4999};
        for (int i : places) {
            Check.due("least(" + i + ")", x.least(i), 0);
        }
        int[] whats = {-1, 5, Integer.MAX_VALUE, Integer.MIN_VALUE};
        for (int what : whats) {
            Check.due("spanned(" + what + ")", x.spanned(what), -1);
        }
    }

    private static void edges() {
        Relay x = new Relay();
        Check.due("span(TOP - 4999, 5000)", x.span(TOP - 4999, 5000), primesOf(TOP - 4999, 5000));
        Check.due("least(4999)", x.least(4999), 2);
        Check.due("spanned(4)", x.spanned(4), 5000);
        Check.due("a shorter span", x.span(1, 3), 2);
        Check.due("least(0)", x.least(0), 1);
        Check.due("least(3) behind the shorter span", x.least(3), 0);
        Check.due("spanned(4)", x.spanned(4), 3);
        Check.due("gap of 2, 3", x.spanned(1), 1);
        Check.due("1 is smooth by 1", x.smooth(1, false), 1);
        Check.due("1 is rough by all", x.smooth(TOP, true), 1);
        Check.due("all are smooth by TOP", x.smooth(TOP, false), 3);
        Check.due("all are rough by 1", x.smooth(1, true), 3);
        x.span(3, 2);
        Check.due("5 is not in the span, so 3 has no twin", x.spanned(2), 0);
        x.span(3, 3);
        Check.due("3 and 5", x.spanned(2), 1);
    }

    private static int primesOf(long from, int many) {
        int primes = 0;
        for (int i = 0; i < many; i++) {
            primes += Plain.isPrime(from + i) ? 1 : 0;
        }
        return primes;
    }

    private static void whole(Relay x, long from, int many) {
        Check.due("span(" + from + ", " + many + ")", x.span(from, many), primesOf(from, many));
        compareWhole(x, from, many);
    }

    private static void compareWhole(Relay x, long from, int many) {
        String told = "after span(" + from + ", " + many + "): ";
        int gap = 0;
        int twins = 0;
        int free = 0;
        long before = 0;
        long[] least = new long[many];
        long[] greatest = new long[many];
        for (int i = 0; i < many; i++) {
            long n = from + i;
            least[i] = Plain.leastDivisor(n);
            greatest[i] = Plain.greatestPrime(n);
            Check.due(told + "least(" + i + ")", x.least(i), least[i]);
            free += Plain.isSquareFree(n) ? 1 : 0;
            if (Plain.isPrime(n)) {
                gap = before > 0 ? Math.max(gap, (int) (n - before)) : 0;
                before = n;
                twins += n + 2 < from + many && Plain.isPrime(n + 2) ? 1 : 0;
            }
        }
        Check.due(told + "least(-1)", x.least(-1), 0);
        Check.due(told + "least(many)", x.least(many), 0);
        Check.due(told + "primes", x.spanned(0), primesOf(from, many));
        Check.due(told + "gap", x.spanned(1), gap);
        Check.due(told + "twins", x.spanned(2), twins);
        Check.due(told + "square free", x.spanned(3), free);
        Check.due(told + "numbers", x.spanned(4), many);
        Check.due(told + "about(1)", x.about(1), many);
        long[] bounds = {1, 2, 3, 7, 10, 100, 99991, 100000, 12345678, from, from + many - 1, TOP};
        for (long b : bounds) {
            int smooth = 0;
            int rough = 0;
            for (int i = 0; i < many; i++) {
                smooth += greatest[i] <= b ? 1 : 0;
                rough += from + i == 1 || least[i] > b ? 1 : 0;
            }
            Check.due(told + "smooth(" + b + ", false)", x.smooth(b, false), smooth);
            Check.due(told + "smooth(" + b + ", true)", x.smooth(b, true), rough);
        }
    }

    /** The document's widest span at its farthest end, by prime tests alone. */
    private static void large() {
        Relay x = new Relay();
        Plain.Mixed mixed = new Plain.Mixed(7);
        for (int turn = 0; turn < 6; turn++) {
            long from = mixed.from(TOP / 2, TOP - 4999);
            Check.due("span(" + from + ", 5000)", x.span(from, 5000), primesOf(from, 5000));
            for (int i = 0; i < 5000; i++) {
                long n = from + i;
                Check.due("least is n for primes alone", x.least(i) == n, Plain.isPrime(n));
            }
        }
    }
}
