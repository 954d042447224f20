/** Promises 6 and 7, sentence by sentence, at their edges. */
public final class PrimeEdgesTest {
    private static final int NONE = -1;
    private static final long TOP = Bench.TOP;
    private static final long GREATEST_PRIME = 9999999967L;
    /** No numbers of the document; 10000000019 is the first prime above them. */
    private static final long[] OTHERS = {0, -1, -2, -7, TOP + 1, TOP + 2, 10000000019L, 10000000020L,
        (1L << 40) + 7, (1L << 62) + 7, Long.MAX_VALUE, Long.MIN_VALUE, Long.MIN_VALUE + 7};

    public static void main(String[] args) {
        primeOrNot();
        primeOfOthers();
        nextAboveAndBelow();
        nextBeyondTheEnds();
        nextOfOthers();
        Check.end();
    }

    private static void primeOrNot() {
        Check.sentence("Promise 6", "Number n is prime: 1, 0.");
        Bench x = new Bench();
        long[] primes = {2, 3, 5, 99989, 99991, 100003, 2147483647L, 4294967291L, 4294967311L, 4999999937L,
            GREATEST_PRIME};
        for (long n : primes) {
            x.prime(n).is(1);
        }
        // 1, the squares and products of the greatest primes up to the root, and numbers that deceive quick tests.
        long[] composites = {1, 4, 9, 25, 49, 561, 2047, 99991L * 99991, 99989L * 99991, 99989L * 99989, 3215031751L,
            4294967296L, 4294967297L, TOP - 1, TOP};
        for (long n : composites) {
            x.prime(n).is(0);
        }
    }

    private static void primeOfOthers() {
        Check.sentence("Promise 6", "NONE for others.");
        Bench x = new Bench();
        for (long n : OTHERS) {
            x.prime(n).is(NONE);
        }
    }

    private static void nextAboveAndBelow() {
        Check.sentence("Promise 7", "The least prime above n, or (down) the greatest one below it.");
        Bench x = new Bench();
        x.next(1, false).is(2);
        x.next(2, false).is(3);
        x.next(3, false).is(5);
        x.next(3, true).is(2);
        x.next(4, true).is(3);
        x.next(5, true).is(3);
        x.next(113, false).is(127);
        x.next(127, true).is(113);
        x.next(4302407359L, false).is(4302407713L);
        x.next(4302407713L, true).is(4302407359L);
        x.next(GREATEST_PRIME - 1, false).is(GREATEST_PRIME);
        x.next(GREATEST_PRIME, true).is(9999999943L);
        x.next(GREATEST_PRIME + 1, true).is(GREATEST_PRIME);
        x.next(TOP, true).is(GREATEST_PRIME);
    }

    private static void nextBeyondTheEnds() {
        Check.sentence("Promise 7", "0: there is none such within 1 .. 10000000000");
        Bench x = new Bench();
        x.next(1, true).is(0);
        x.next(2, true).is(0);
        x.next(GREATEST_PRIME, false).is(0);
        x.next(GREATEST_PRIME + 1, false).is(0);
        x.next(TOP - 1, false).is(0);
        x.next(TOP, false).is(0);
    }

    private static void nextOfOthers() {
        Check.sentence("Promise 7", ", or n is none of these.");
        Bench x = new Bench();
        for (long n : OTHERS) {
            x.next(n, false).is(0);
            x.next(n, true).is(0);
        }
    }
}
