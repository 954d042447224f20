/** Terms I and promises 2 to 5, sentence by sentence, at their edges. */
public final class SpanEdgesTest {
    private static final int NONE = -1;
    private static final long TOP = Bench.TOP;
    /** The square of the greatest prime whose square is a number of the document, and the greatest prime. */
    private static final long GREATEST_SQUARE = 9998200081L;
    private static final long GREATEST_PRIME = 9999999967L;

    public static void main(String[] args) {
        whichSpansThereAre();
        leastDivisors();
        smoothNumbers();
        roughNumbers();
        squareFreeNumbers();
        gaps();
        twins();
        spanAnswersItsPrimes();
        otherSpansLeaveTheFormerOne();
        otherSpansAtFirstLeaveNone();
        leastOfTheSpan();
        leastOfNoSuchNumber();
        spannedAnswers();
        spannedOfOthers();
        spannedWithoutASpan();
        smoothByTheEdges();
        smoothByOthers();
        smoothWithoutASpan();
        Check.end();
    }

    private static Bench after(long from, int many) {
        Bench x = new Bench();
        x.span(from, many);
        return x;
    }

    private static void whichSpansThereAre() {
        Check.sentence("Terms", "SPANS. Numbers from FROM on, MANY of them (1 .. 5000), all 1 .. 10000000000.");
        Bench x = new Bench();
        x.span(1, 1).is(0);
        x.spanned(4).is(1);
        x.span(1, 2).is(1);
        x.spanned(4).is(2);
        x.span(1, 4999).is(669);
        x.spanned(4).is(4999);
        x.span(1, 5000).is(669);
        x.spanned(4).is(5000);
        x.span(TOP, 1).is(0);
        x.spanned(4).is(1);
        x.span(TOP - 1, 2).is(0);
        x.spanned(4).is(2);
        x.span(TOP - 4999, 5000).is(213);
        x.spanned(4).is(5000);
        x.span(TOP - 5000, 5000).is(213);
    }

    private static void leastDivisors() {
        Check.sentence("Terms", "Of each its LEAST prime divisor (of 1: 1).");
        after(1, 1).least(0).is(1);
        after(1, 5000).least(0).is(1);
        after(2, 1).least(0).is(2);
        after(4, 1).least(0).is(2);
        after(9, 1).least(0).is(3);
        after(35, 1).least(0).is(5);
        after(TOP, 1).least(0).is(2);
        after(GREATEST_SQUARE, 1).least(0).is(99991);
        after(99989L * 99991L, 1).least(0).is(99989);
        after(GREATEST_PRIME, 1).least(0).is(GREATEST_PRIME);
        after(2 * 4999999937L, 1).least(0).is(2);
    }

    private static void smoothNumbers() {
        Check.sentence("Terms", "SMOOTH by b: all its prime divisors are at most b (1 is);");
        after(1, 1).smooth(1, false).is(1);
        after(1, 1).smooth(TOP, false).is(1);
        after(2, 1).smooth(1, false).is(0);
        after(2, 1).smooth(2, false).is(1);
        smoothFrom(6, 3);
        smoothFrom(GREATEST_SQUARE, 99991);
        smoothFrom(99989L * 99991L, 99991);
        smoothFrom(GREATEST_PRIME, GREATEST_PRIME);
        smoothFrom(2 * 4999999937L, 4999999937L);
        smoothFrom(8589934592L, 2);
        smoothFrom(TOP, 5);
        after(1, 10).smooth(1, false).is(1);
        after(1, 10).smooth(4, false).is(7);
        after(1, 10).smooth(5, false).is(9);
    }

    private static void smoothFrom(long n, long greatest) {
        Bench x = after(n, 1);
        x.smooth(greatest - 1, false).is(0);
        x.smooth(greatest, false).is(1);
        x.smooth(greatest + 1, false).is(1);
    }

    private static void roughNumbers() {
        Check.sentence("Terms", "ROUGH: all are above b (1 is).");
        after(1, 1).smooth(1, true).is(1);
        after(1, 1).smooth(TOP, true).is(1);
        roughUnder(2, 2);
        roughUnder(6, 2);
        roughUnder(9, 3);
        roughUnder(GREATEST_SQUARE, 99991);
        roughUnder(99989L * 99991L, 99989);
        roughUnder(GREATEST_PRIME, GREATEST_PRIME);
        roughUnder(TOP, 2);
        after(1, 10).smooth(1, true).is(10);
        after(1, 10).smooth(2, true).is(5);
        after(1, 10).smooth(TOP, true).is(1);
        after(2, 10).smooth(TOP, true).is(0);
    }

    private static void roughUnder(long n, long least) {
        Bench x = after(n, 1);
        x.smooth(least - 1, true).is(1);
        x.smooth(least, true).is(0);
        x.smooth(least + 1, true).is(0);
    }

    private static void squareFreeNumbers() {
        Check.sentence("Terms", "SQUARE FREE: no square above 1 divides it.");
        long[] free = {1, 2, 3, 6, 30, 6469693230L, GREATEST_PRIME, 99989L * 99991L, 2 * 4999999937L};
        for (long n : free) {
            after(n, 1).spanned(3).is(1);
        }
        long[] squared = {4, 8, 9, 12, 18, 8589934592L, 9999999991L, GREATEST_SQUARE, TOP};
        for (long n : squared) {
            after(n, 1).spanned(3).is(0);
        }
        after(48, 3).spanned(3).is(0);
        after(1, 5000).spanned(3).is(3042);
        // What the former span's numbers were does not count.
        Bench x = after(48, 3);
        x.span(1, 3);
        x.spanned(3).is(3);
    }

    private static void gaps() {
        Check.sentence("Terms",
            "GAP: the greatest difference of two primes of the span one behind the other (0 with fewer than two).");
        after(1, 1).spanned(1).is(0);
        after(24, 5).spanned(1).is(0);
        after(24, 6).spanned(1).is(0);
        after(23, 6).spanned(1).is(0);
        after(23, 7).spanned(1).is(6);
        after(1, 2).spanned(1).is(0);
        after(1, 3).spanned(1).is(1);
        after(113, 30).spanned(1).is(14);
        after(114, 30).spanned(1).is(6);
        after(101, 27).spanned(1).is(14);
        after(101, 26).spanned(1).is(4);
        after(GREATEST_PRIME - 24, 58).spanned(1).is(24);
        after(GREATEST_PRIME, 34).spanned(1).is(0);
        after(1, 5000).spanned(1).is(34);
        Bench x = after(113, 30);
        x.span(24, 5);
        x.spanned(1).is(0);
    }

    private static void twins() {
        Check.sentence("Terms", "TWINS: primes p of the span with p + 2 prime and in it.");
        after(1, 1).spanned(2).is(0);
        after(2, 3).spanned(2).is(0);
        after(3, 2).spanned(2).is(0);
        after(3, 3).spanned(2).is(1);
        after(4, 2).spanned(2).is(0);
        after(3, 5).spanned(2).is(2);
        after(3, 4).spanned(2).is(1);
        after(7, 3).spanned(2).is(0);
        after(1, 5000).spanned(2).is(126);
        Bench x = after(3, 5);
        x.span(23, 7);
        x.spanned(2).is(0);
    }

    private static void spanAnswersItsPrimes() {
        Check.sentence("Promise 2", "A span is sieved: how many primes it has.");
        Bench x = new Bench();
        x.span(1, 1).is(0);
        x.span(2, 1).is(1);
        x.span(2, 2).is(2);
        x.span(24, 5).is(0);
        x.span(GREATEST_PRIME, 1).is(1);
        x.span(GREATEST_PRIME, 34).is(1);
        x.span(GREATEST_PRIME + 1, 33).is(0);
        x.span(GREATEST_SQUARE, 1).is(0);
        x.span(99989L * 99991L, 1).is(0);
        x.span(99980, 24).is(3);
    }

    private static void otherSpansLeaveTheFormerOne() {
        Check.sentence("Promise 2", "NONE, and the former one stays, for others.");
        leavesTheFormerOne(1, 0);
        leavesTheFormerOne(1, -1);
        leavesTheFormerOne(1, Integer.MIN_VALUE);
        leavesTheFormerOne(TOP, 0);
        leavesTheFormerOne(1, 5001);
        leavesTheFormerOne(1, Integer.MAX_VALUE);
        leavesTheFormerOne(TOP - 5000, 5001);
        leavesTheFormerOne(0, 1);
        leavesTheFormerOne(0, 5000);
        leavesTheFormerOne(-1, 1);
        leavesTheFormerOne(-1, 5);
        leavesTheFormerOne(Long.MIN_VALUE, 1);
        leavesTheFormerOne(Long.MIN_VALUE, 5000);
        leavesTheFormerOne(TOP, 2);
        leavesTheFormerOne(TOP - 1, 3);
        leavesTheFormerOne(TOP - 4998, 5000);
        leavesTheFormerOne(TOP + 1, 1);
        leavesTheFormerOne(TOP + 1, 5000);
        leavesTheFormerOne(Long.MAX_VALUE, 1);
        leavesTheFormerOne(Long.MAX_VALUE, 5000);
        leavesTheFormerOne(Long.MAX_VALUE, Integer.MIN_VALUE);
        // The low 32 bits of these alone would be 1.
        leavesTheFormerOne((1L << 40) + 1, 1);
        leavesTheFormerOne(Long.MIN_VALUE + 1, 1);
    }

    private static void leavesTheFormerOne(long from, int many) {
        Bench x = after(10, 10);
        x.span(from, many).is(NONE);
        long[] least = {2, 11, 2, 13, 2, 3, 2, 17, 2, 19, 0};
        for (int i = 0; i < least.length; i++) {
            x.least(i).is(least[i]);
        }
        int[] spanned = {4, 4, 2, 7, 10};
        for (int what = 0; what < spanned.length; what++) {
            x.spanned(what).is(spanned[what]);
        }
        x.smooth(3, false).is(3);
        x.smooth(3, true).is(4);
        x.about(1).is(10);
    }

    private static void otherSpansAtFirstLeaveNone() {
        Check.sentence("Promise 2", "NONE, and the former one stays, for others.");
        Bench x = new Bench();
        x.span(0, 1).is(NONE);
        x.span(1, 0).is(NONE);
        x.span(1, 5001).is(NONE);
        x.span(TOP, 2).is(NONE);
        x.spanned(4).is(0);
        x.spanned(0).is(NONE);
        x.smooth(2, false).is(NONE);
        x.least(0).is(0);
        x.about(1).is(0);
    }

    private static void leastOfTheSpan() {
        Check.sentence("Promise 3", "LEAST of number i (from 0) of the span.");
        Bench x = after(1, 5000);
        x.least(0).is(1);
        x.least(1).is(2);
        x.least(2).is(3);
        x.least(4998).is(4999);
        x.least(4999).is(2);
        x.span(TOP - 4999, 5000);
        x.least(0).is(3);
        x.least(4966).is(GREATEST_PRIME);
        x.least(4999).is(2);
        x.span(7, 1);
        x.least(0).is(7);
    }

    private static void leastOfNoSuchNumber() {
        Check.sentence("Promise 3", "0 if there is none such.");
        int[] never = {-1, 5000, 5001, Integer.MAX_VALUE, Integer.MIN_VALUE};
        Bench fresh = new Bench();
        fresh.least(0).is(0);
        Bench x = after(2, 5000);
        for (int i : never) {
            fresh.least(i).is(0);
            x.least(i).is(0);
        }
        x.span(10, 3);
        x.least(2).is(2);
        x.least(3).is(0);
        x.least(4999).is(0);
        x.span(1, 1);
        x.least(1).is(0);
        x.least(2).is(0);
    }

    private static void spannedAnswers() {
        Check.sentence("Promise 4", "Of the span: 0 primes, 1 GAP, 2 TWINS, 3 SQUARE FREE ones, 4 its numbers.");
        spannedIs(1, 1, new int[] {0, 0, 0, 1, 1});
        spannedIs(2, 1, new int[] {1, 0, 0, 1, 1});
        spannedIs(4, 1, new int[] {0, 0, 0, 0, 1});
        spannedIs(TOP, 1, new int[] {0, 0, 0, 0, 1});
        spannedIs(GREATEST_PRIME, 1, new int[] {1, 0, 0, 1, 1});
        spannedIs(1, 5000, new int[] {669, 34, 126, 3042, 5000});
        spannedIs(TOP - 9, 10, new int[] {0, 0, 0, 5, 10});
    }

    private static void spannedIs(long from, int many, int[] want) {
        Bench x = after(from, many);
        for (int what = 0; what < want.length; what++) {
            x.spanned(what).is(want[what]);
        }
    }

    private static void spannedOfOthers() {
        Check.sentence("Promise 4", "NONE for others");
        Bench x = after(1, 30);
        int[] others = {-1, 5, 6, Integer.MAX_VALUE, Integer.MIN_VALUE};
        for (int what : others) {
            x.spanned(what).is(NONE);
        }
    }

    private static void spannedWithoutASpan() {
        Check.sentence("Promise 4", ", and without a span (4: 0).");
        Bench x = new Bench();
        for (int what = 0; what <= 3; what++) {
            x.spanned(what).is(NONE);
        }
        x.spanned(4).is(0);
        x.spanned(-1).is(NONE);
        x.spanned(5).is(NONE);
        x.part(12);
        x.sheet();
        x.spanned(0).is(NONE);
        x.spanned(4).is(0);
    }

    private static void smoothByTheEdges() {
        Check.sentence("Promise 5", "How many of the span are SMOOTH (rough false) or ROUGH by b (1 .. 10000000000).");
        Bench x = after(1, 5000);
        x.smooth(1, false).is(1);
        x.smooth(1, true).is(5000);
        x.smooth(TOP, false).is(5000);
        x.smooth(TOP, true).is(1);
        x.smooth(TOP - 1, false).is(5000);
        x.smooth(4999, false).is(5000);
        x.smooth(4998, false).is(4999);
        x.smooth(4998, true).is(2);
        x.smooth(4999, true).is(1);
        x.span(TOP - 4999, 5000);
        x.smooth(1, false).is(0);
        x.smooth(1, true).is(5000);
        x.smooth(2, true).is(2500);
        x.smooth(TOP, false).is(5000);
        x.smooth(TOP, true).is(0);
        x.smooth(GREATEST_PRIME - 1, false).is(4999);
        x.smooth(GREATEST_PRIME - 1, true).is(1);
    }

    private static void smoothByOthers() {
        Check.sentence("Promise 5", "NONE for others");
        Bench x = after(1, 30);
        long[] others = {0, -1, TOP + 1, 1L << 40, Long.MAX_VALUE, Long.MIN_VALUE};
        for (long b : others) {
            x.smooth(b, false).is(NONE);
            x.smooth(b, true).is(NONE);
        }
        x.smooth(2, false).is(5);
    }

    private static void smoothWithoutASpan() {
        Check.sentence("Promise 5", ", and without a span.");
        Bench x = new Bench();
        long[] bounds = {1, 2, TOP, 0, TOP + 1};
        for (long b : bounds) {
            x.smooth(b, false).is(NONE);
            x.smooth(b, true).is(NONE);
        }
    }
}
