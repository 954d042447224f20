/** Promises 17 to 25: rule, sheet, tell, product, turned, clear, at, sumOf, same. */
public final class RowsTest {
    private static final int TOP = 600;

    public static void main(String[] args) {
        rules();
        sheetsAndTells();
        products();
        turnedBack();
        sixteenRows();
        cleared();
        sameRows();
        wrongRows();
        Check.end();
    }

    private static void compare(String told, Relay x, int row, long[] want) {
        long sum = 0;
        Check.due(told + " sumOf(" + row + ", 0)", x.sumOf(row, 0), 0);
        for (int n = 1; n <= TOP; n++) {
            Check.due(told + " at(" + row + ", " + n + ")", x.at(row, n), want[n]);
            sum += want[n];
            Check.due(told + " sumOf(" + row + ", " + n + ")", x.sumOf(row, n), sum);
        }
        int[] wrong = {0, -1, TOP + 1, Integer.MAX_VALUE, Integer.MIN_VALUE};
        for (int n : wrong) {
            Check.due(told + " at(" + row + ", " + n + ")", x.at(row, n), 0);
            Check.due(told + " sumOf(" + row + ", " + n + ")", x.sumOf(row, n), 0);
        }
    }

    private static long[] byRule(int which) {
        long[] row = new long[TOP + 1];
        for (int n = 1; n <= TOP; n++) {
            row[n] = Plain.rule(which, n);
        }
        return row;
    }

    private static void rules() {
        Relay x = new Relay();
        for (int which = 0; which <= 9; which++) {
            Check.due("rule(" + which + ")", x.rule(which), which);
        }
        int[] wrong = {-1, 10, 11, Integer.MAX_VALUE, Integer.MIN_VALUE};
        for (int which : wrong) {
            Check.due("rule(" + which + ")", x.rule(which), -1);
        }
        Check.due("about(0)", x.about(0), 10);
        for (int which = 0; which <= 9; which++) {
            compare("rule " + which, x, which, byRule(which));
        }
    }

    private static void sheetsAndTells() {
        Relay x = new Relay();
        Check.due("tell without rows", x.tell(0, 1, 5), false);
        Check.due("sheet()", x.sheet(), 0);
        compare("a sheet", x, 0, new long[TOP + 1]);
        for (int first = 1; first <= 3; first++) {
            everyThirdIsTold(first);
        }
        x.rule(1);
        Check.due("a row by a rule is told over", x.tell(1, 7, -3), true);
        Check.due("at(1, 7)", x.at(1, 7), -3);
        Check.due("at(1, 14)", x.at(1, 14), 1);
    }

    /** Every third, as 600 tells are more than an object's calls. */
    private static void everyThirdIsTold(int first) {
        Relay x = new Relay();
        Check.due("sheet()", x.sheet(), 0);
        Check.due("rule(1)", x.rule(1), 1);
        Check.due("sheet()", x.sheet(), 2);
        long[] want = new long[TOP + 1];
        Plain.Mixed mixed = new Plain.Mixed(8);
        for (int n = first; n <= TOP; n += 3) {
            want[n] = mixed.any();
            Check.due("tell(0, " + n + ", ..)", x.tell(0, n, want[n]), true);
        }
        want[1] = Long.MIN_VALUE;
        want[TOP] = Long.MAX_VALUE;
        Check.due("tell again", x.tell(0, 1, want[1]) && x.tell(0, TOP, want[TOP]), true);
        int[] wrong = {0, -1, TOP + 1, Integer.MAX_VALUE, Integer.MIN_VALUE};
        for (int n : wrong) {
            Check.due("tell(0, " + n + ", 9)", x.tell(0, n, 9), false);
            Check.due("tell(1, " + n + ", 9)", x.tell(1, n, 9), false);
        }
        int[] noRows = {-1, 3, 15, 16, Integer.MAX_VALUE, Integer.MIN_VALUE};
        for (int row : noRows) {
            Check.due("tell(" + row + ", 1, 9)", x.tell(row, 1, 9), false);
        }
        compare("a told sheet", x, 0, want);
        compare("its neighbour", x, 1, byRule(1));
        compare("the other sheet", x, 2, new long[TOP + 1]);
    }

    private static void products() {
        Relay x = new Relay();
        Plain.Mixed mixed = new Plain.Mixed(9);
        long[] a = told(x, mixed);
        long[] b = told(x, mixed);
        long[] ab = new long[TOP + 1];
        long[] aa = new long[TOP + 1];
        for (int n = 1; n <= TOP; n++) {
            ab[n] = Plain.product(a, b, n);
            aa[n] = Plain.product(a, a, n);
        }
        Check.due("product(0, 1)", x.product(0, 1), 2);
        Check.due("product(1, 0)", x.product(1, 0), 3);
        Check.due("product(0, 0)", x.product(0, 0), 4);
        compare("product", x, 2, ab);
        compare("product", x, 3, ab);
        compare("product with itself", x, 4, aa);
        compare("its part", x, 0, a);
        compare("its part", x, 1, b);
        x.tell(0, 1, 77);
        compare("a product does not follow its parts", x, 2, ab);
        int[] noRows = {-1, 5, 16, Integer.MAX_VALUE, Integer.MIN_VALUE};
        for (int row : noRows) {
            Check.due("product(0, " + row + ")", x.product(0, row), -1);
            Check.due("product(" + row + ", 0)", x.product(row, 0), -1);
        }
        Check.due("about(0)", x.about(0), 5);
    }

    /** A row by a rule, told over at some hundred places. */
    private static long[] told(Relay x, Plain.Mixed mixed) {
        int row = x.rule(2);
        long[] values = byRule(2);
        for (int n = 1; n <= TOP; n += (int) mixed.from(1, 11)) {
            values[n] = mixed.any();
            x.tell(row, n, values[n]);
        }
        return values;
    }

    private static void turnedBack() {
        long[] firsts = {1, -1};
        long[] one = byRule(0);
        for (long first : firsts) {
            Relay x = new Relay();
            Plain.Mixed mixed = new Plain.Mixed(10);
            long[] a = told(x, mixed);
            a[1] = first;
            x.tell(0, 1, first);
            Check.due("turned(0)", x.turned(0), 1);
            compare("the row stays", x, 0, a);
            long[] back = new long[TOP + 1];
            for (int n = 1; n <= TOP; n++) {
                back[n] = x.at(1, n);
            }
            for (int n = 1; n <= TOP; n++) {
                Check.due("turned back, at " + n, Plain.product(a, back, n), one[n]);
            }
            Check.due("turned(1)", x.turned(1), 2);
            compare("turned back twice", x, 2, a);
        }
        long[] wrong = {0, 2, -2, 3, Long.MAX_VALUE, Long.MIN_VALUE, 4294967297L, 4294967295L};
        Relay x = new Relay();
        x.rule(1);
        for (long first : wrong) {
            x.tell(0, 1, first);
            Check.due("turned back with " + first + " at 1", x.turned(0), -1);
        }
        int[] noRows = {-1, 1, 16, Integer.MAX_VALUE, Integer.MIN_VALUE};
        for (int row : noRows) {
            Check.due("turned(" + row + ")", x.turned(row), -1);
        }
        Check.due("about(0)", x.about(0), 1);
        for (int which = 0; which <= 9; which++) {
            x.clear();
            x.rule(which);
            Check.due("turned by rule " + which, x.turned(0), 1);
            x.product(0, 1);
            compare("rule and turned back " + which, x, 2, one);
        }
    }

    private static void sixteenRows() {
        Relay x = new Relay();
        for (int row = 0; row < 16; row++) {
            Check.due("about(0)", x.about(0), row);
            int rest = row % 4;
            int made = rest == 0 ? x.rule(5) : rest == 1 ? x.sheet() : rest == 2 ? x.product(0, 0) : x.turned(0);
            Check.due("row " + row, made, row);
        }
        Check.due("rule with 16", x.rule(1), -1);
        Check.due("sheet with 16", x.sheet(), -1);
        Check.due("product with 16", x.product(0, 0), -1);
        Check.due("turned with 16", x.turned(0), -1);
        Check.due("about(0)", x.about(0), 16);
        compare("the last row", x, 12, byRule(5));
        Check.due("tell(15, 600, 8)", x.tell(15, TOP, 8), true);
        Check.due("at(15, 600)", x.at(15, TOP), 8);
        Check.due("tell(16, 1, 8)", x.tell(16, 1, 8), false);
        Check.due("at(16, 1)", x.at(16, 1), 0);
    }

    private static void cleared() {
        Relay x = new Relay();
        x.clear();
        Check.due("about(0) after clear", x.about(0), 0);
        x.span(1, 10);
        x.part(12);
        for (int row = 0; row < 16; row++) {
            x.rule(2);
        }
        x.clear();
        Check.due("about(0)", x.about(0), 0);
        Check.due("the span stays", x.about(1), 10);
        Check.due("the number that is parted stays", x.about(2), 2);
        for (int row = 0; row < 16; row++) {
            Check.due("at after clear", x.at(row, 5), 0);
            Check.due("sumOf after clear", x.sumOf(row, 5), 0);
            Check.due("tell after clear", x.tell(row, 5, 5), false);
            Check.due("same after clear", x.same(row, row), -1);
            Check.due("product after clear", x.product(row, row), -1);
            Check.due("turned after clear", x.turned(row), -1);
        }
        Check.due("sheet()", x.sheet(), 0);
        compare("a sheet after clear", x, 0, new long[TOP + 1]);
        x.tell(0, 1, 1);
        x.tell(0, 3, 2);
        Check.due("rule(1)", x.rule(1), 1);
        Check.due("product(0, 1)", x.product(0, 1), 2);
        Check.due("turned(1)", x.turned(1), 3);
        long[] want = new long[TOP + 1];
        for (int n = 1; n <= TOP; n++) {
            want[n] = n % 3 == 0 ? 3 : 1;
        }
        compare("a product after clear", x, 2, want);
        compare("turned after clear", x, 3, byRule(3));
    }

    private static void sameRows() {
        Relay x = new Relay();
        Plain.Mixed mixed = new Plain.Mixed(11);
        for (int n = 1; n <= TOP; n++) {
            x.clear();
            x.sheet();
            x.sheet();
            Check.due("same(0, 1)", x.same(0, 1), 0);
            Check.due("same(0, 0)", x.same(0, 0), 0);
            x.tell(1, (int) mixed.from(n, TOP), 5);
            x.tell(0, (int) mixed.from(n, TOP), 7);
            x.tell(1, n, Long.MIN_VALUE);
            Check.due("same(0, 1)", x.same(0, 1), n);
            Check.due("same(1, 0)", x.same(1, 0), n);
            x.tell(0, n, Long.MIN_VALUE + 4294967296L);
            Check.due("rows that part above 32 bits", x.same(0, 1), n);
        }
    }

    private static void wrongRows() {
        Relay x = new Relay();
        Check.due("same without rows", x.same(0, 0), -1);
        Check.due("product without rows", x.product(0, 0), -1);
        Check.due("turned without rows", x.turned(0), -1);
        Check.due("at without rows", x.at(0, 1), 0);
        Check.due("sumOf without rows", x.sumOf(0, 1), 0);
        x.rule(2);
        int[] noRows = {-1, 1, 2, 15, 16, Integer.MAX_VALUE, Integer.MIN_VALUE};
        for (int row : noRows) {
            Check.due("same(0, " + row + ")", x.same(0, row), -1);
            Check.due("same(" + row + ", 0)", x.same(row, 0), -1);
            Check.due("same(" + row + ", " + row + ")", x.same(row, row), -1);
            Check.due("at(" + row + ", 1)", x.at(row, 1), 0);
            Check.due("sumOf(" + row + ", 1)", x.sumOf(row, 1), 0);
        }
    }
}
