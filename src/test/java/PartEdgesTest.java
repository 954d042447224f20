/** Terms II and promises 8 to 11, sentence by sentence, at their edges. */
public final class PartEdgesTest {
    private static final int NONE = -1;
    private static final long TOP = Bench.TOP;
    private static final long GREATEST_PRIME = 9999999967L;
    /** The product of the first ten primes: no number of the document has more PARTS. */
    private static final long FULL = 6469693230L;
    private static final long[] OTHERS = {0, -1, TOP + 1, -84, (1L << 62) + 84, Long.MAX_VALUE, Long.MIN_VALUE};

    public static void main(String[] args) {
        whichNumbersThereAre();
        partsRise();
        partAnswersItsParts();
        otherNumbersLeaveTheFormerOne();
        otherNumbersAtFirstLeaveNone();
        primesAndPowers();
        noSuchPart();
        divisors();
        strangers();
        moebiusAndProduct();
        partedOfOthers();
        partedWithoutOne();
        withoutUpToTheEdges();
        withoutUpToOthers();
        withoutWithoutOne();
        Check.end();
    }

    private static Bench after(long n) {
        Bench x = new Bench();
        x.part(n);
        return x;
    }

    private static void whichNumbersThereAre() {
        Check.sentence("Terms", "ONE NUMBER n (1 .. 10000000000):");
        long[] numbers = {1, 2, TOP - 1, TOP};
        int[] parts = {0, 1, 5, 2};
        for (int i = 0; i < numbers.length; i++) {
            Bench x = new Bench();
            x.part(numbers[i]).is(parts[i]);
            x.parted(0).is(numbers[i]);
        }
    }

    private static void partsRise() {
        Check.sentence("Terms", "its PARTS: primes, rising, each with its power.");
        partsAre(1, new long[] {}, new int[] {});
        partsAre(2, new long[] {2}, new int[] {1});
        partsAre(8589934592L, new long[] {2}, new int[] {33});
        partsAre(9998200081L, new long[] {99991}, new int[] {2});
        partsAre(99989L * 99991L, new long[] {99989, 99991}, new int[] {1, 1});
        partsAre(GREATEST_PRIME, new long[] {GREATEST_PRIME}, new int[] {1});
        partsAre(2 * 4999999937L, new long[] {2, 4999999937L}, new int[] {1, 1});
        partsAre(TOP, new long[] {2, 5}, new int[] {10, 10});
        partsAre(TOP - 1, new long[] {3, 11, 41, 271, 9091}, new int[] {2, 1, 1, 1, 1});
        partsAre(9999999991L, new long[] {19, 277, 100003}, new int[] {2, 1, 1});
        partsAre(FULL, new long[] {2, 3, 5, 7, 11, 13, 17, 19, 23, 29}, new int[] {1, 1, 1, 1, 1, 1, 1, 1, 1, 1});
    }

    private static void partsAre(long n, long[] primes, int[] powers) {
        Bench x = new Bench();
        x.part(n).is(primes.length);
        for (int i = 0; i < primes.length; i++) {
            x.parts(i, 0).is(primes[i]);
            x.parts(i, 1).is(powers[i]);
        }
        x.parts(primes.length, 0).is(0);
        x.parts(primes.length, 1).is(0);
    }

    private static void partAnswersItsParts() {
        Check.sentence("Promise 8", "Number n becomes the one that is parted: how many PARTS.");
        Bench x = new Bench();
        x.part(FULL).is(10);
        x.parted(0).is(FULL);
        x.part(1).is(0);
        x.parted(0).is(1);
        x.part(49).is(1);
        x.parted(0).is(49);
        x.part(TOP).is(2);
        x.parted(0).is(TOP);
        x.part(TOP).is(2);
        x.about(2).is(2);
    }

    private static void otherNumbersLeaveTheFormerOne() {
        Check.sentence("Promise 8", "NONE, and the former one stays, for others.");
        for (long other : OTHERS) {
            Bench x = after(84);
            x.part(other).is(NONE);
            long[] primes = {2, 3, 7, 0};
            int[] powers = {2, 1, 1, 0};
            for (int i = 0; i < primes.length; i++) {
                x.parts(i, 0).is(primes[i]);
                x.parts(i, 1).is(powers[i]);
            }
            long[] parted = {84, 12, 224, 24, 0, 42};
            for (int what = 0; what < parted.length; what++) {
                x.parted(what).is(parted[what]);
            }
            x.without(10).is(2);
            x.about(2).is(3);
        }
    }

    private static void otherNumbersAtFirstLeaveNone() {
        Check.sentence("Promise 8", "NONE, and the former one stays, for others.");
        for (long other : OTHERS) {
            Bench x = new Bench();
            x.part(other).is(NONE);
            x.about(2).is(NONE);
            x.parted(0).is(0);
            x.parted(1).is(0);
            x.parts(0, 0).is(0);
            x.without(5).is(NONE);
        }
    }

    private static void primesAndPowers() {
        Check.sentence("Promise 9", "Of PART i: its prime (what 0), its power (1).");
        Bench x = after(FULL);
        x.parts(0, 0).is(2);
        x.parts(0, 1).is(1);
        x.parts(9, 0).is(29);
        x.parts(9, 1).is(1);
        x.part(8589934592L);
        x.parts(0, 0).is(2);
        x.parts(0, 1).is(33);
    }

    private static void noSuchPart() {
        Check.sentence("Promise 9", "0 if there is none such.");
        Bench fresh = new Bench();
        Bench one = after(1);
        Bench full = after(FULL);
        int[] others = {-1, 10, 11, Integer.MAX_VALUE, Integer.MIN_VALUE};
        for (int i : others) {
            for (int what = 0; what <= 1; what++) {
                fresh.parts(i, what).is(0);
                one.parts(i, what).is(0);
                full.parts(i, what).is(0);
            }
        }
        fresh.parts(0, 0).is(0);
        fresh.parts(0, 1).is(0);
        one.parts(0, 0).is(0);
        one.parts(0, 1).is(0);
        int[] whats = {-1, 2, 3, Integer.MAX_VALUE, Integer.MIN_VALUE};
        for (int what : whats) {
            full.parts(0, what).is(0);
            full.parts(9, what).is(0);
        }
        // What a number with more PARTS left behind is none of the new one's.
        full.part(7);
        full.parts(0, 0).is(7);
        full.parts(1, 0).is(0);
        full.parts(1, 1).is(0);
        full.parts(9, 0).is(0);
    }

    private static void divisors() {
        Check.sentence("Promise 10", "Of the number that is parted: 0 it, 1 how many divisors, 2 their sum,");
        long[] numbers = {1, 2, 4, 6, 8589934592L, 6983776800L, FULL, 9998200081L, GREATEST_PRIME, TOP - 1, TOP};
        long[] divisors = {1, 2, 3, 4, 34, 2304, 1024, 3, 2, 48, 121};
        long[] sums = {1, 3, 7, 12, 17179869183L, 37797580800L, 25082265600L, 9998300073L, 9999999968L, 16203253248L,
            24987792457L};
        for (int i = 0; i < numbers.length; i++) {
            Bench x = after(numbers[i]);
            x.parted(0).is(numbers[i]);
            x.parted(1).is(divisors[i]);
            x.parted(2).is(sums[i]);
        }
    }

    private static void strangers() {
        Check.sentence("Promise 10", "3 how many numbers up to it have no common divisor with it,");
        after(1).parted(3).is(1);
        after(2).parted(3).is(1);
        after(4).parted(3).is(2);
        after(FULL).parted(3).is(1021870080);
        after(8589934592L).parted(3).is(4294967296L);
        after(9998200081L).parted(3).is(9998100090L);
        after(GREATEST_PRIME).parted(3).is(GREATEST_PRIME - 1);
        after(TOP).parted(3).is(4000000000L);
    }

    private static void moebiusAndProduct() {
        Check.sentence("Promise 10", "4 Moebius, 5 the product of its primes.");
        long[] numbers = {1, 2, 4, 6, 12, 30, FULL, 9998200081L, GREATEST_PRIME, 99989L * 99991L, TOP - 1, TOP};
        long[] moebius = {1, -1, 0, 1, 0, -1, 1, 0, -1, 1, 0, 0};
        long[] products = {1, 2, 2, 6, 6, 30, FULL, 99991, GREATEST_PRIME, 9998000099L, 3333333333L, 10};
        for (int i = 0; i < numbers.length; i++) {
            Bench x = after(numbers[i]);
            x.parted(4).is(moebius[i]);
            x.parted(5).is(products[i]);
        }
    }

    private static void partedOfOthers() {
        Check.sentence("Promise 10", "0 for others");
        Bench x = after(30);
        int[] others = {-1, 6, 7, Integer.MAX_VALUE, Integer.MIN_VALUE};
        for (int what : others) {
            x.parted(what).is(0);
        }
    }

    private static void partedWithoutOne() {
        Check.sentence("Promise 10", ", and without one.");
        Bench x = new Bench();
        for (int what = -1; what <= 6; what++) {
            x.parted(what).is(0);
        }
        x.span(12, 1);
        x.prime(7);
        x.parted(0).is(0);
        x.parted(3).is(0);
    }

    private static void withoutUpToTheEdges() {
        Check.sentence("Promise 11",
            "Numbers 1 .. n without a common divisor with the number that is parted (n 0 .. 10000000000).");
        long[] numbers = {1, 2, 30, FULL, GREATEST_PRIME, TOP};
        long[] all = {TOP, 5000000000L, 2666666666L, 1579472227L, 9999999999L, 4000000000L};
        for (int i = 0; i < numbers.length; i++) {
            Bench x = after(numbers[i]);
            x.without(0).is(0);
            x.without(1).is(1);
            x.without(TOP).is(all[i]);
        }
        Bench x = after(GREATEST_PRIME);
        x.without(GREATEST_PRIME - 1).is(GREATEST_PRIME - 1);
        x.without(GREATEST_PRIME).is(GREATEST_PRIME - 1);
        x.without(GREATEST_PRIME + 1).is(GREATEST_PRIME);
        x.part(FULL);
        x.without(30).is(1);
        x.without(31).is(2);
    }

    private static void withoutUpToOthers() {
        Check.sentence("Promise 11", "NONE for others");
        Bench x = after(30);
        long[] others = {-1, -2, TOP + 1, Long.MAX_VALUE, Long.MIN_VALUE};
        for (long n : others) {
            x.without(n).is(NONE);
        }
        x.part(1);
        for (long n : others) {
            x.without(n).is(NONE);
        }
    }

    private static void withoutWithoutOne() {
        Check.sentence("Promise 11", ", and without one.");
        Bench x = new Bench();
        long[] all = {0, 1, 5, TOP, -1, TOP + 1};
        for (long n : all) {
            x.without(n).is(NONE);
        }
    }
}
