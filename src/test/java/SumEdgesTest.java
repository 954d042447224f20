/** Terms III, FAR sums and promises 12 to 16 and 26, sentence by sentence, at their edges. */
public final class SumEdgesTest {
    private static final int NONE = -1;
    private static final long TOP = Bench.TOP;
    private static final int COUNT_TOP = 2000000;
    private static final int FAR_TOP = 1000000000;
    private static final int LINE_TOP = 1000000;
    private static final int[] OTHER_COUNTS = {-1, -2, COUNT_TOP + 1, Integer.MAX_VALUE, Integer.MIN_VALUE};

    public static void main(String[] args) {
        floorsGoRound();
        farSumsGoRound();
        floorsAreCut();
        floorsAtTheEdges();
        pointsUnderTheLine();
        farSums();
        farUpToTheTop();
        counts();
        countsOfOthers();
        sums();
        sumsOfOthers();
        rests();
        restsOfOtherNumbers();
        restsByOtherDivisors();
        otherRests();
        floorsPromise();
        floorsOfOthers();
        pointsAtTheEdges();
        pointsOfOthers();
        farAtTheEdges();
        farOfOtherRules();
        farToOthers();
        Check.end();
    }

    private static void floorsGoRound() {
        Check.sentence("Terms", "SUMS, all exactly (64 bits with a sign, it goes round).");
        Bench x = new Bench();
        // The last sum that fits into 64 bits with a sign, and the first one that does not.
        x.floors(4294966, LINE_TOP, LINE_TOP, 1).is(9223368618061000000L);
        x.floors(4294967, LINE_TOP, LINE_TOP, 1).is(-9223371160681551616L);
        x.floors(FAR_TOP, LINE_TOP, LINE_TOP, 1).is(1002382102603448320L);
        x.floors(FAR_TOP, LINE_TOP, 0, 1).is(1001382102603448320L);
        x.sum(COUNT_TOP).is(142913828922L);
        x.points(TOP).is(231802823220L);
    }

    private static void farSumsGoRound() {
        Check.sentence("Terms", "SUMS, all exactly (64 bits with a sign, it goes round).");
        int[][] rules = {{0, 9}, {1, 9}, {2, 2}, {2, 9}, {9, 9}};
        int[] lastThatFits = {3024616, 2844648, 930491528, 2562245, 1230699};
        long[] fits = {9223371388520336796L, 9223370635529213540L, 9223372029319961902L, 9223362898330367396L,
            9223358723306363665L};
        long[] round = {-9223363536881218131L, -9223365346152404874L, -9223372029501725250L, -9223365944569041500L,
            -9223330823993547951L};
        Bench x = new Bench();
        for (int i = 0; i < rules.length; i++) {
            x.far(rules[i][0], rules[i][1], lastThatFits[i]).is(fits[i]);
            x.far(rules[i][0], rules[i][1], lastThatFits[i] + 1).is(round[i]);
            x.far(rules[i][1], rules[i][0], lastThatFits[i]).is(fits[i]);
            x.far(rules[i][1], rules[i][0], lastThatFits[i] + 1).is(round[i]);
        }
    }

    private static void floorsAreCut() {
        Check.sentence("Terms", "FLOORS: over k from 0 to n - 1 the sum of (a k + b) / m, each cut");
        Bench x = new Bench();
        x.floors(0, 5, 5, 1).is(0);
        x.floors(1, 5, 7, 2).is(3);
        x.floors(2, 5, 7, 2).is(9);
        x.floors(3, 0, 1, 2).is(0);
        x.floors(2, 1, 0, 2).is(0);
        x.floors(3, 1, 0, 2).is(1);
        x.floors(5, 1, 0, 2).is(4);
        x.floors(4, 1, 1, 2).is(4);
    }

    private static void floorsAtTheEdges() {
        Check.sentence("Terms", "(a, b 0 .. 1000000, m 1 .. 1000000, n 0 .. 1000000000).");
        Bench x = new Bench();
        x.floors(0, 0, 0, 1).is(0);
        x.floors(0, LINE_TOP, LINE_TOP, LINE_TOP).is(0);
        x.floors(1, 0, LINE_TOP, 1).is(LINE_TOP);
        x.floors(2, LINE_TOP, 0, 1).is(LINE_TOP);
        x.floors(1, LINE_TOP, LINE_TOP, LINE_TOP).is(1);
        x.floors(1, LINE_TOP, LINE_TOP - 1, LINE_TOP).is(0);
        x.floors(FAR_TOP, 0, 0, 1).is(0);
        x.floors(FAR_TOP, 0, 0, LINE_TOP).is(0);
        x.floors(FAR_TOP, 0, LINE_TOP, 1).is(1000000000000000L);
        x.floors(FAR_TOP, 1, 0, LINE_TOP).is(499500000000L);
        x.floors(FAR_TOP, LINE_TOP, LINE_TOP, LINE_TOP).is(500000000500000000L);
        x.floors(FAR_TOP, LINE_TOP - 1, LINE_TOP - 1, LINE_TOP).is(499999500000000000L);
    }

    private static void pointsUnderTheLine() {
        Check.sentence("Terms", "POINTS: places x, y above 0 with x y at most n.");
        Bench x = new Bench();
        int[] points = {0, 1, 3, 5, 8, 10, 14, 16, 20, 23, 27};
        for (int n = 0; n < points.length; n++) {
            x.points(n).is(points[n]);
        }
    }

    private static void farSums() {
        Check.sentence("Terms", "FAR sums: over all numbers to n of the PRODUCT of two of the rules 0, 1, 2 and 9,");
        int[] rules = {0, 1, 2, 9};
        int[][][] to4 = {
            {{0, 1, 1, 1, 1}, {0, 1, 2, 3, 4}, {0, 1, 3, 6, 10}, {0, 1, 5, 14, 30}},
            {{0, 1, 2, 3, 4}, {0, 1, 3, 5, 8}, {0, 1, 4, 8, 15}, {0, 1, 6, 16, 37}},
            {{0, 1, 3, 6, 10}, {0, 1, 4, 8, 15}, {0, 1, 5, 11, 23}, {0, 1, 7, 19, 47}},
            {{0, 1, 5, 14, 30}, {0, 1, 6, 16, 37}, {0, 1, 7, 19, 47}, {0, 1, 9, 27, 75}}};
        Bench x = new Bench();
        for (int a = 0; a < rules.length; a++) {
            for (int b = 0; b < rules.length; b++) {
                for (int n = 0; n <= 4; n++) {
                    x.far(rules[a], rules[b], n).is(to4[a][b][n]);
                }
            }
        }
    }

    private static void counts() {
        Check.sentence("Promise 12", "How many primes there are up to n (0 .. 2000000).");
        Bench x = new Bench();
        int[] counts = {0, 0, 1, 2, 2, 3, 3, 4, 4, 4, 4, 5};
        for (int n = 0; n < counts.length; n++) {
            x.count(n).is(counts[n]);
        }
        x.count(30).is(10);
        x.count(48).is(15);
        x.count(49).is(15);
        x.count(1999992).is(148932);
        x.count(1999993).is(148933);
        x.count(COUNT_TOP - 1).is(148933);
        x.count(COUNT_TOP).is(148933);
    }

    private static void countsOfOthers() {
        Check.sentence("Promise 12", "NONE for others.");
        Bench x = new Bench();
        for (int n : OTHER_COUNTS) {
            x.count(n).is(NONE);
        }
    }

    private static void sums() {
        Check.sentence("Promise 13", "Their sum.");
        Bench x = new Bench();
        int[] sums = {0, 0, 2, 5, 5, 10, 10, 17, 17, 17, 17, 28};
        for (int n = 0; n < sums.length; n++) {
            x.sum(n).is(sums[n]);
        }
        x.sum(1999992).is(142913828922L - 1999993);
        x.sum(1999993).is(142913828922L);
        x.sum(COUNT_TOP - 1).is(142913828922L);
        x.sum(COUNT_TOP).is(142913828922L);
    }

    private static void sumsOfOthers() {
        Check.sentence("Promise 13", "NONE for others.");
        Bench x = new Bench();
        for (int n : OTHER_COUNTS) {
            x.sum(n).is(NONE);
        }
    }

    private static void rests() {
        Check.sentence("Promise 14", "How many of them leave rest r by m (1 .. 60).");
        Bench x = new Bench();
        x.among(0, 1, 0).is(0);
        x.among(0, 60, 59).is(0);
        x.among(1, 1, 0).is(0);
        x.among(1, 60, 1).is(0);
        x.among(2, 1, 0).is(1);
        x.among(2, 60, 2).is(1);
        x.among(2, 2, 0).is(1);
        x.among(2, 2, 1).is(0);
        x.among(58, 60, 59).is(0);
        x.among(59, 60, 59).is(1);
        x.among(58, 59, 0).is(0);
        x.among(59, 59, 0).is(1);
        // Squares of primes leave rests that primes leave, and 1 is no prime.
        x.among(24, 4, 1).is(3);
        x.among(25, 4, 1).is(3);
        x.among(100, 8, 1).is(5);
        x.among(3480, 60, 1).is(26);
        x.among(3481, 60, 1).is(26);
        // The numbers by 3 and by 4 are the most that are looked at for one rest.
        x.among(COUNT_TOP, 3, 1).is(74412);
        x.among(COUNT_TOP, 3, 2).is(74520);
        x.among(COUNT_TOP, 4, 1).is(74416);
        x.among(COUNT_TOP, 4, 3).is(74516);
        x.among(COUNT_TOP, 1, 0).is(148933);
        x.among(COUNT_TOP, 2, 0).is(1);
        x.among(COUNT_TOP, 2, 1).is(148932);
        x.among(COUNT_TOP, 59, 0).is(1);
        x.among(COUNT_TOP, 59, 58).is(2541);
        x.among(COUNT_TOP, 60, 0).is(0);
        x.among(COUNT_TOP, 60, 1).is(9234);
        x.among(COUNT_TOP, 60, 5).is(1);
        x.among(COUNT_TOP, 60, 59).is(9332);
    }

    private static void restsOfOtherNumbers() {
        Check.sentence("Promise 14", "NONE for others.");
        Bench x = new Bench();
        for (int n : OTHER_COUNTS) {
            x.among(n, 1, 0).is(NONE);
            x.among(n, 4, 1).is(NONE);
            x.among(n, 4, 2).is(NONE);
            x.among(n, 60, 59).is(NONE);
        }
    }

    private static void restsByOtherDivisors() {
        Check.sentence("Promise 14", "NONE for others.");
        Bench x = new Bench();
        int[] others = {0, -1, -4, 61, Integer.MAX_VALUE, Integer.MIN_VALUE};
        for (int m : others) {
            x.among(100, m, 0).is(NONE);
            x.among(100, m, 1).is(NONE);
            x.among(0, m, 0).is(NONE);
        }
    }

    private static void otherRests() {
        Check.sentence("Promise 14", "NONE for others.");
        Bench x = new Bench();
        for (int m = 1; m <= 60; m++) {
            x.among(100, m, -1).is(NONE);
            x.among(100, m, m).is(NONE);
        }
        x.among(100, 4, 5).is(NONE);
        x.among(100, 4, -3).is(NONE);
        x.among(100, 4, Integer.MAX_VALUE).is(NONE);
        x.among(100, 4, Integer.MIN_VALUE).is(NONE);
        x.among(0, 4, 4).is(NONE);
    }

    private static void floorsPromise() {
        Check.sentence("Promise 15", "FLOORS.");
        Bench x = new Bench();
        x.floors(4, 6, 3, 10).is(3);
        x.floors(3, 7, 1, 2).is(11);
        x.floors(1000000, 3, 4, 7).is(214285642857L);
    }

    private static void floorsOfOthers() {
        Check.sentence("Promise 15", "NONE for others.");
        Bench x = new Bench();
        int[] ends = {Integer.MIN_VALUE, -1, LINE_TOP + 1, Integer.MAX_VALUE};
        for (int other : ends) {
            x.floors(3, other, 1, 1).is(NONE);
            x.floors(3, 1, other, 1).is(NONE);
            x.floors(3, 1, 1, other).is(NONE);
            // Nothing is summed here, but they are others all the same.
            x.floors(0, other, 1, 1).is(NONE);
            x.floors(0, 1, other, 1).is(NONE);
            x.floors(0, 1, 1, other).is(NONE);
        }
        x.floors(3, 1, 1, 0).is(NONE);
        x.floors(0, 0, 0, 0).is(NONE);
        x.floors(-1, 1, 1, 1).is(NONE);
        x.floors(FAR_TOP + 1, 1, 1, 1).is(NONE);
        x.floors(FAR_TOP + 1, 0, 0, 1).is(NONE);
        x.floors(Integer.MAX_VALUE, 1, 1, 1).is(NONE);
        x.floors(Integer.MIN_VALUE, 1, 1, 1).is(NONE);
    }

    private static void pointsAtTheEdges() {
        Check.sentence("Promise 16", "POINTS by n (0 .. 10000000000).");
        Bench x = new Bench();
        x.points(0).is(0);
        x.points(1).is(1);
        x.points(TOP - 1).is(231802823099L);
        x.points(TOP).is(231802823220L);
    }

    private static void pointsOfOthers() {
        Check.sentence("Promise 16", "NONE for others.");
        Bench x = new Bench();
        long[] others = {-1, -2, TOP + 1, 1L << 40, Long.MAX_VALUE, Long.MIN_VALUE};
        for (long n : others) {
            x.points(n).is(NONE);
        }
    }

    private static void farUpToTheTop() {
        Check.sentence("Terms", "n up to 1000000000.");
        Bench x = new Bench();
        x.far(1, 0, FAR_TOP - 1).is(FAR_TOP - 1);
        x.far(1, 0, FAR_TOP).is(FAR_TOP);
        x.far(1, 0, FAR_TOP + 1).is(0);
    }

    private static void farAtTheEdges() {
        Check.sentence("Promise 26", "FAR sum of two rules (0, 1, 2, 9) to n (0 .. 1000000000).");
        int[] rules = {0, 1, 2, 9};
        long[][] all = {
            {1, FAR_TOP, 500000000500000000L, 4338615082255021824L},
            {FAR_TOP, 20877697634L, 822467034112360628L, -3649864982002603418L},
            {500000000500000000L, 822467034112360628L, -7757895023334320585L, 3665986856307224151L},
            {4338615082255021824L, -3649864982002603418L, 3665986856307224151L, -2466741738554295341L}};
        Bench x = new Bench();
        for (int a = 0; a < rules.length; a++) {
            for (int b = 0; b < rules.length; b++) {
                x.far(rules[a], rules[b], 0).is(0);
                x.far(rules[a], rules[b], 1).is(1);
                x.far(rules[a], rules[b], FAR_TOP).is(all[a][b]);
            }
        }
    }

    private static void farOfOtherRules() {
        Check.sentence("Promise 26", "0 for others.");
        Bench x = new Bench();
        int[] others = {-1, 3, 4, 5, 6, 7, 8, 10, 11, Integer.MAX_VALUE, Integer.MIN_VALUE};
        for (int other : others) {
            x.far(other, 1, 5).is(0);
            x.far(1, other, 5).is(0);
            x.far(0, other, 1).is(0);
            x.far(other, other, 5).is(0);
        }
    }

    private static void farToOthers() {
        Check.sentence("Promise 26", "0 for others.");
        Bench x = new Bench();
        int[] rules = {0, 1, 2, 9};
        int[] others = {-1, FAR_TOP + 1, Integer.MAX_VALUE, Integer.MIN_VALUE};
        for (int n : others) {
            for (int a : rules) {
                for (int b : rules) {
                    x.far(a, b, n).is(0);
                }
            }
        }
    }
}
