import java.util.function.Consumer;

/** Terms IV and promises 17 to 25, sentence by sentence, at their edges. */
public final class RowEdgesTest {
    private static final int NONE = -1;
    private static final int MOST = 16;
    private static final int TOP = 600;
    /** Numbers of rows that there are never. */
    private static final int[] NO_ROWS = {-1, 16, 17, Integer.MAX_VALUE, Integer.MIN_VALUE};
    /** Numbers for which a row tells nothing. */
    private static final int[] NO_NUMBERS = {0, -1, TOP + 1, TOP + 2, Integer.MAX_VALUE, Integer.MIN_VALUE};

    public static void main(String[] args) {
        rowsAndNumbers();
        rowsGoRound();
        rulesAtOne();
        rulesAtPowers();
        rulesAtOthers();
        productsOverAllDivisors();
        turnedBackByOneOrMinusOne();
        ruleComesAsARow();
        otherRules();
        rulesBeyondSixteen();
        sheetsAreZeros();
        sheetsBeyondSixteen();
        tellsAtTheEdges();
        tellsOfNoSuchRow();
        tellsAtNoSuchNumber();
        productComesAsARow();
        productsOfNoSuchRows();
        productsBeyondSixteen();
        turnedComesAsARow();
        turnedOfNoSuchRow();
        whatCannotBeTurned();
        turnedBeyondSixteen();
        clearedOfAll();
        sixteenAgainAfterClear();
        atTheEdges();
        atNoSuchPlace();
        sumsOfRows();
        otherSumsOfRows();
        rowsThatAreOne();
        rowsThatPart();
        sameOfNoSuchRows();
        Check.end();
    }

    private static Bench withRules(int... rules) {
        Bench x = new Bench();
        for (int which : rules) {
            x.rule(which);
        }
        return x;
    }

    private static Bench full() {
        return withRules(1, 2, 3, 4, 5, 6, 7, 8, 9, 0, 1, 2, 3, 4, 5, 2);
    }

    private static void rowsAndNumbers() {
        Check.sentence("Terms", "ROWS 0 .. 15 of numbers for 1 .. 600");
        Bench x = new Bench();
        for (int row = 0; row < MOST; row++) {
            x.sheet().is(row);
            x.tell(row, 1, 100 + row).is(true);
            x.tell(row, TOP, 200 + row).is(true);
        }
        for (int row = 0; row < MOST; row++) {
            x.at(row, 1).is(100 + row);
            x.at(row, 2).is(0);
            x.at(row, TOP - 1).is(0);
            x.at(row, TOP).is(200 + row);
        }
        x.sheet().is(NONE);
    }

    private static void rowsGoRound() {
        Check.sentence("Terms", "(64 bits, going round).");
        Bench x = new Bench();
        x.sheet();
        x.tell(0, 1, 1);
        x.tell(0, 2, 3037000500L);
        x.product(0, 0).is(1);
        x.at(1, 2).is(6074001000L);
        x.at(1, 4).is(-9223372036709301616L);
        x.turned(0).is(2);
        x.at(2, 2).is(-3037000500L);
        x.at(2, 4).is(-9223372036709301616L);
        x.sheet().is(3);
        x.tell(3, 1, Long.MAX_VALUE);
        x.tell(3, 2, 1);
        x.sumOf(3, 1).is(Long.MAX_VALUE);
        x.sumOf(3, 2).is(Long.MIN_VALUE);
        x.tell(3, 3, Long.MIN_VALUE);
        x.sumOf(3, TOP).is(0);
        x.tell(0, 2, Long.MIN_VALUE);
        x.turned(0).is(4);
        x.at(4, 2).is(Long.MIN_VALUE);
        x.tell(0, 2, 1L << 32);
        x.product(0, 0).is(5);
        x.at(5, 4).is(0);
    }

    private static void rulesAtOne() {
        Check.sentence("Terms", "By a RULE: at 1 it is 1,");
        Bench x = withRules(0, 1, 2, 3, 4, 5, 6, 7, 8, 9);
        for (int which = 0; which <= 9; which++) {
            x.at(which, 1).is(1);
        }
    }

    private static void rulesAtPowers() {
        Check.sentence("Terms", "at a power k above 0 of a prime p as told,");
        ruleIs("0 ONE: 0;", 0, new long[] {0, 0, 0, 0, 0, 0});
        ruleIs("1: 1;", 1, new long[] {1, 1, 1, 1, 1, 1});
        ruleIs("2: p to the k;", 2, new long[] {2, 4, 512, 3, 243, 599});
        ruleIs("3: -1 for k 1, else 0 (Moebius);", 3, new long[] {-1, 0, 0, -1, 0, -1});
        ruleIs("4: p to the k less p to the k - 1 (Euler);", 4, new long[] {1, 2, 256, 2, 162, 598});
        ruleIs("5: k + 1 (divisors);", 5, new long[] {2, 3, 10, 2, 6, 2});
        ruleIs("6: the sum of p to the j, j 0 .. k;", 6, new long[] {3, 7, 1023, 4, 364, 600});
        ruleIs("7: -1 to the k (Liouville);", 7, new long[] {-1, 1, -1, -1, -1, -1});
        ruleIs("8: 1 for k 1, else 0;", 8, new long[] {1, 0, 0, 1, 0, 1});
        ruleIs("9: p to the 2 k.", 9, new long[] {4, 16, 262144, 9, 59049, 358801});
    }

    /** At 2, 4, 512, 3, 243 and 599: the first power, the last one that a row has, and its last prime. */
    private static void ruleIs(String words, int which, long[] want) {
        Check.sentence("Terms", words);
        Bench x = withRules(which);
        int[] powers = {2, 4, 512, 3, 243, 599};
        for (int i = 0; i < powers.length; i++) {
            x.at(0, powers[i]).is(want[i]);
        }
    }

    private static void rulesAtOthers() {
        Check.sentence("Terms", "at others the product of what it is at the powers that part it:");
        Bench x = withRules(0, 1, 2, 3, 4, 5, 6, 7, 8, 9);
        // 6, 30, 420 = 4 3 5 7 and 600 = 8 3 25.
        long[][] want = {{0, 0, 0, 0}, {1, 1, 1, 1}, {6, 30, 420, 600}, {1, -1, 0, 0}, {2, 8, 96, 160},
            {4, 8, 24, 24}, {12, 72, 1344, 1860}, {1, -1, -1, 1}, {1, 1, 0, 0}, {36, 900, 176400, 360000}};
        int[] numbers = {6, 30, 420, 600};
        for (int which = 0; which <= 9; which++) {
            for (int i = 0; i < numbers.length; i++) {
                x.at(which, numbers[i]).is(want[which][i]);
            }
        }
    }

    private static void productsOverAllDivisors() {
        Check.sentence("Terms", "PRODUCT of a and b: at n the sum of a(d) b(n / d) over all d that divide n.");
        Bench x = new Bench();
        x.sheet();
        x.sheet();
        x.tell(0, 1, 3);
        x.tell(0, 2, 5);
        x.tell(0, TOP, 7);
        x.tell(1, 1, 11);
        x.tell(1, 2, 13);
        x.tell(1, TOP, 17);
        x.tell(1, 300, 19);
        x.product(0, 1).is(2);
        x.at(2, 1).is(33);
        x.at(2, 2).is(3 * 13 + 5 * 11);
        x.at(2, 3).is(0);
        x.at(2, 4).is(65);
        x.at(2, 300).is(57);
        x.at(2, TOP).is(3 * 17 + 5 * 19 + 7 * 11);
        x.product(1, 0).is(3);
        x.same(2, 3).is(0);
        x.product(0, 0).is(4);
        x.at(4, 1).is(9);
        x.at(4, 2).is(30);
        x.at(4, 4).is(25);
        x.at(4, TOP).is(42);
        x.sheet().is(5);
        x.product(0, 5).is(6);
        x.same(5, 6).is(0);
    }

    private static void turnedBackByOneOrMinusOne() {
        Check.sentence("Terms", "TURNED BACK of a row that is 1 or -1 at 1: the row whose PRODUCT with it is ONE.");
        long[] firsts = {1, -1};
        for (long first : firsts) {
            Bench x = new Bench();
            x.sheet();
            x.tell(0, 1, first);
            x.tell(0, 2, 5);
            x.tell(0, 3, -7);
            x.tell(0, TOP, 4);
            x.turned(0).is(1);
            x.at(1, 1).is(first);
            x.at(1, 2).is(-5);
            x.at(1, 3).is(7);
            x.at(1, 4).is(25 * first);
            x.at(1, 6).is(-70 * first);
            x.at(1, TOP).is(-4);
            x.rule(0).is(2);
            x.product(0, 1).is(3);
            x.same(2, 3).is(0);
            x.turned(1).is(4);
            x.same(0, 4).is(0);
            x.turned(2).is(5);
            x.same(2, 5).is(0);
        }
    }

    private static void ruleComesAsARow() {
        Check.sentence("Promise 17", "A row by a RULE: its number.");
        Bench x = new Bench();
        for (int row = 0; row < MOST; row++) {
            x.rule(row % 10).is(row);
            x.about(0).is(row + 1);
        }
        x.at(9, 2).is(4);
        x.at(15, 6).is(4);
    }

    private static void otherRules() {
        Check.sentence("Promise 17", "NONE for others");
        int[] others = {-1, 10, 11, Integer.MAX_VALUE, Integer.MIN_VALUE};
        Bench x = new Bench();
        for (int which : others) {
            x.rule(which).is(NONE);
            x.about(0).is(0);
        }
        x.rule(9).is(0);
        for (int which : others) {
            x.rule(which).is(NONE);
            x.about(0).is(1);
        }
        x.rule(0).is(1);
    }

    private static void rulesBeyondSixteen() {
        Check.sentence("Promise 17", ", or if there are 16.");
        leavesFullRows(x -> x.rule(0).is(NONE));
        leavesFullRows(x -> x.rule(9).is(NONE));
        leavesFullRows(x -> x.rule(10).is(NONE));
    }

    /** After a call that is refused as there are 16 rows, all 16 tell what they told. */
    private static void leavesFullRows(Consumer<Bench> refused) {
        Bench x = full();
        refused.accept(x);
        x.about(0).is(MOST);
        x.at(0, TOP).is(1);
        x.at(1, TOP).is(TOP);
        x.at(14, TOP).is(24);
        x.at(15, 1).is(1);
        x.at(15, TOP).is(TOP);
        x.sumOf(15, TOP).is(180300);
        x.same(1, 15).is(0);
        x.same(2, 12).is(0);
        x.at(MOST, 1).is(0);
        x.same(15, MOST).is(NONE);
    }

    private static void sheetsAreZeros() {
        Check.sentence("Promise 18", "A row of zeros: its number.");
        Bench x = new Bench();
        x.sheet().is(0);
        x.rule(2).is(1);
        x.sheet().is(2);
        zeros(x, 0);
        zeros(x, 2);
        x.same(0, 2).is(0);
        // Where other rows stood before.
        x.clear();
        x.rule(2);
        x.rule(2);
        x.clear();
        x.sheet().is(0);
        x.sheet().is(1);
        zeros(x, 0);
        zeros(x, 1);
    }

    private static void zeros(Bench x, int row) {
        for (int n = 1; n <= TOP; n = n < 20 ? n + 1 : n + 20) {
            x.at(row, n).is(0);
        }
        x.at(row, TOP).is(0);
        x.sumOf(row, TOP).is(0);
    }

    private static void sheetsBeyondSixteen() {
        Check.sentence("Promise 18", "NONE if there are 16.");
        Bench x = new Bench();
        for (int row = 0; row < MOST; row++) {
            x.sheet().is(row);
        }
        x.sheet().is(NONE);
        x.about(0).is(MOST);
        leavesFullRows(y -> y.sheet().is(NONE));
    }

    private static void tellsAtTheEdges() {
        Check.sentence("Promise 19", "A row tells v at n: true.");
        Bench x = full();
        int[] rows = {0, 1, 15};
        int[] numbers = {1, 2, TOP};
        long[] values = {0, -1, 1L << 32, Long.MAX_VALUE, Long.MIN_VALUE};
        for (int row : rows) {
            for (int n : numbers) {
                for (long v : values) {
                    x.tell(row, n, v).is(true);
                    x.at(row, n).is(v);
                }
            }
        }
        x.at(1, 3).is(3);
        x.at(2, 1).is(1);
        x.at(14, TOP).is(24);
    }

    private static void tellsOfNoSuchRow() {
        Check.sentence("Promise 19", "False: no such row");
        Bench fresh = new Bench();
        fresh.tell(0, 1, 5).is(false);
        Bench x = withRules(1, 2);
        Bench full = full();
        for (int row : NO_ROWS) {
            fresh.tell(row, 1, 5).is(false);
            x.tell(row, 1, 5).is(false);
            full.tell(row, 1, 5).is(false);
            full.tell(row, TOP, 5).is(false);
        }
        x.tell(2, 1, 5).is(false);
        x.tell(15, 1, 5).is(false);
        // A row that comes later does not tell what was refused.
        x.sheet().is(2);
        x.at(2, 1).is(0);
        x.at(1, TOP).is(TOP);
        full.at(0, 1).is(1);
        full.at(15, TOP).is(TOP);
        x.clear();
        x.tell(0, 1, 5).is(false);
    }

    private static void tellsAtNoSuchNumber() {
        Check.sentence("Promise 19", ", n.");
        Bench x = full();
        for (int n : NO_NUMBERS) {
            x.tell(0, n, 5).is(false);
            x.tell(7, n, 5).is(false);
            x.tell(15, n, 5).is(false);
        }
        for (int row = 0; row < MOST; row++) {
            x.at(row, 1).is(1);
        }
        x.at(6, TOP).is(1);
        x.at(7, TOP).is(0);
        x.at(8, 2).is(4);
        x.at(14, TOP).is(24);
        x.at(15, TOP).is(TOP);
    }

    private static void productComesAsARow() {
        Check.sentence("Promise 20", "The PRODUCT of two rows comes as a row: its number.");
        Bench x = withRules(1, 2);
        for (int row = 2; row < MOST; row++) {
            x.product(row % 2, row % 3 == 0 ? 1 : 0).is(row);
        }
        x.about(0).is(MOST);
        x.at(15, 4).is(12);
        x.at(15, TOP).is(24 * TOP);
        x.at(0, TOP).is(1);
        x.at(1, TOP).is(TOP);
        // It is a row of its own.
        x.tell(0, 1, 77);
        x.at(2, 1).is(1);
        x.tell(2, 1, 78);
        x.at(0, 1).is(77);
    }

    private static void productsOfNoSuchRows() {
        Check.sentence("Promise 20", "NONE: no such rows");
        Bench fresh = new Bench();
        fresh.product(0, 0).is(NONE);
        Bench x = withRules(1, 2);
        int[] others = {-1, 2, 15, 16, Integer.MAX_VALUE, Integer.MIN_VALUE};
        for (int row : others) {
            fresh.product(row, row).is(NONE);
            x.product(row, 0).is(NONE);
            x.product(1, row).is(NONE);
            x.product(row, row).is(NONE);
        }
        fresh.about(0).is(0);
        x.about(0).is(2);
        x.clear();
        x.product(0, 1).is(NONE);
        x.about(0).is(0);
    }

    private static void productsBeyondSixteen() {
        Check.sentence("Promise 20", ", or there are 16.");
        leavesFullRows(x -> x.product(0, 0).is(NONE));
        leavesFullRows(x -> x.product(0, 15).is(NONE));
        leavesFullRows(x -> x.product(15, 16).is(NONE));
    }

    private static void turnedComesAsARow() {
        Check.sentence("Promise 21", "A row TURNED BACK comes as a row: its number.");
        Bench x = withRules(1, 3);
        for (int row = 2; row < MOST; row++) {
            x.turned(row - 2).is(row);
        }
        x.about(0).is(MOST);
        x.same(1, 2).is(0);
        x.same(0, 3).is(0);
        x.same(1, 14).is(0);
        x.same(0, 15).is(0);
        // It is a row of its own.
        x.tell(0, 1, 5);
        x.at(2, 1).is(1);
        x.tell(2, 1, 6);
        x.at(0, 1).is(5);
    }

    private static void turnedOfNoSuchRow() {
        Check.sentence("Promise 21", "NONE: no such row");
        Bench fresh = new Bench();
        fresh.turned(0).is(NONE);
        Bench x = withRules(1, 2);
        int[] others = {-1, 2, 15, 16, Integer.MAX_VALUE, Integer.MIN_VALUE};
        for (int row : others) {
            fresh.turned(row).is(NONE);
            x.turned(row).is(NONE);
        }
        fresh.about(0).is(0);
        x.about(0).is(2);
        x.clear();
        x.turned(0).is(NONE);
        x.about(0).is(0);
    }

    private static void whatCannotBeTurned() {
        Check.sentence("Promise 21", ", it can't be");
        Bench x = new Bench();
        x.sheet();
        x.turned(0).is(NONE);
        x.tell(0, 2, 1);
        // The last four are 1 or -1 in their low bits alone.
        long[] firsts = {0, 2, -2, 3, -3, Long.MAX_VALUE, Long.MIN_VALUE, 4294967297L, 4294967295L, -4294967295L,
            Long.MIN_VALUE + 1};
        for (long first : firsts) {
            x.tell(0, 1, first);
            x.turned(0).is(NONE);
            x.about(0).is(1);
            x.at(0, 1).is(first);
        }
        x.tell(0, 1, -1);
        x.turned(0).is(1);
        x.tell(0, 1, 1);
        x.turned(0).is(2);
    }

    private static void turnedBeyondSixteen() {
        Check.sentence("Promise 21", ", or there are 16.");
        leavesFullRows(x -> x.turned(0).is(NONE));
        leavesFullRows(x -> x.turned(15).is(NONE));
        leavesFullRows(x -> x.turned(16).is(NONE));
    }

    private static void clearedOfAll() {
        Check.sentence("Promise 22", "No rows.");
        Bench fresh = new Bench();
        fresh.clear();
        fresh.about(0).is(0);
        fresh.at(0, 1).is(0);
        fresh.sheet().is(0);
        Bench x = full();
        x.span(10, 10);
        x.part(84);
        x.clear();
        x.about(0).is(0);
        for (int row = 0; row < MOST; row++) {
            x.at(row, 1).is(0);
            x.sumOf(row, TOP).is(0);
            x.same(row, row).is(NONE);
            x.tell(row, 1, 1).is(false);
            x.product(row, row).is(NONE);
            x.turned(row).is(NONE);
        }
        x.clear();
        x.about(0).is(0);
        x.about(1).is(10);
        x.about(2).is(3);
        x.least(1).is(11);
        x.parted(0).is(84);
    }

    private static void sixteenAgainAfterClear() {
        Check.sentence("Promise 22", "No rows.");
        Bench x = full();
        for (int turn = 0; turn < 4; turn++) {
            x.clear();
            x.sheet().is(0);
            x.sumOf(0, TOP).is(0);
            x.rule(1).is(1);
            x.turned(1).is(2);
            x.product(1, 1).is(3);
            for (int row = 4; row < MOST; row++) {
                x.rule(turn).is(row);
            }
            x.rule(1).is(NONE);
            x.sheet().is(NONE);
            x.product(1, 1).is(NONE);
            x.turned(1).is(NONE);
            x.about(0).is(MOST);
            x.at(2, 30).is(-1);
            x.at(3, TOP).is(24);
            x.at(15, TOP).is(turn == 0 || turn == 3 ? 0 : turn == 1 ? 1 : TOP);
        }
    }

    private static void atTheEdges() {
        Check.sentence("Promise 23", "What a row tells at n.");
        Bench x = full();
        x.at(0, 1).is(1);
        x.at(0, TOP).is(1);
        x.at(1, 1).is(1);
        x.at(1, TOP - 1).is(TOP - 1);
        x.at(1, TOP).is(TOP);
        x.at(15, 1).is(1);
        x.at(15, TOP).is(TOP);
    }

    private static void atNoSuchPlace() {
        Check.sentence("Promise 23", "0 if there is none such.");
        Bench fresh = new Bench();
        fresh.at(0, 1).is(0);
        Bench full = full();
        for (int row : NO_ROWS) {
            fresh.at(row, 1).is(0);
            full.at(row, 1).is(0);
            full.at(row, TOP).is(0);
        }
        // Their neighbours tell other numbers than 0.
        for (int n : NO_NUMBERS) {
            full.at(0, n).is(0);
            full.at(1, n).is(0);
            full.at(15, n).is(0);
        }
        full.at(-1, TOP + 1).is(0);
        full.at(16, -TOP + 1).is(0);
        Bench x = withRules(1, 2);
        x.at(2, 1).is(0);
        x.at(15, 1).is(0);
        x.clear();
        x.at(0, 1).is(0);
    }

    private static void sumsOfRows() {
        Check.sentence("Promise 24", "The sum of a row from 1 to n (0 .. 600).");
        Bench x = full();
        int[] rows = {1, 15};
        for (int row : rows) {
            x.sumOf(row, 0).is(0);
            x.sumOf(row, 1).is(1);
            x.sumOf(row, 2).is(3);
            x.sumOf(row, TOP - 1).is(179700);
            x.sumOf(row, TOP).is(180300);
        }
        x.sumOf(0, TOP).is(TOP);
        x.sumOf(8, TOP).is(72180100);
    }

    private static void otherSumsOfRows() {
        Check.sentence("Promise 24", "0 for others.");
        Bench fresh = new Bench();
        fresh.sumOf(0, 0).is(0);
        fresh.sumOf(0, TOP).is(0);
        Bench full = full();
        for (int row : NO_ROWS) {
            fresh.sumOf(row, 1).is(0);
            full.sumOf(row, 1).is(0);
            full.sumOf(row, TOP).is(0);
        }
        for (int n : NO_NUMBERS) {
            full.sumOf(0, n).is(0);
            full.sumOf(7, n).is(0);
            full.sumOf(15, n).is(0);
        }
        Bench x = withRules(1, 2);
        x.sumOf(2, TOP).is(0);
        x.clear();
        x.sumOf(0, TOP).is(0);
    }

    private static void rowsThatAreOne() {
        Check.sentence("Promise 25", "Whether two rows are one: 0");
        Bench x = new Bench();
        x.sheet();
        x.sheet();
        x.same(0, 1).is(0);
        x.same(0, 0).is(0);
        x.tell(0, TOP, 9);
        x.same(0, 0).is(0);
        x.tell(1, TOP, 9);
        x.same(0, 1).is(0);
        x.same(1, 0).is(0);
        Bench full = full();
        full.same(15, 15).is(0);
        full.same(0, 10).is(0);
        full.same(1, 15).is(0);
    }

    private static void rowsThatPart() {
        Check.sentence("Promise 25", ", else the first n at which they part.");
        Bench x = new Bench();
        x.sheet();
        x.sheet();
        int[] numbers = {TOP, TOP - 1, 300, 2, 1};
        for (int n : numbers) {
            x.tell(0, n, 1L << 32);
            x.same(0, 1).is(n);
            x.same(1, 0).is(n);
        }
        x.tell(1, 1, 1L << 32);
        x.same(0, 1).is(2);
        // Sums that are alike do not make them one.
        x.clear();
        x.rule(1);
        x.rule(1);
        x.tell(0, 5, 2);
        x.tell(0, 6, 0);
        x.same(0, 1).is(5);
        x.tell(1, 5, 2);
        x.same(0, 1).is(6);
    }

    private static void sameOfNoSuchRows() {
        Check.sentence("Promise 25", "NONE for no such rows.");
        Bench fresh = new Bench();
        fresh.same(0, 0).is(NONE);
        Bench full = full();
        for (int row : NO_ROWS) {
            fresh.same(row, row).is(NONE);
            full.same(row, 0).is(NONE);
            full.same(15, row).is(NONE);
            full.same(row, row).is(NONE);
        }
        Bench x = withRules(1, 2);
        x.same(2, 0).is(NONE);
        x.same(0, 2).is(NONE);
        x.same(2, 2).is(NONE);
        x.same(15, 15).is(NONE);
        x.clear();
        x.same(0, 0).is(NONE);
        x.same(0, 1).is(NONE);
    }
}
