/** Promises 1 and 27: a new object, about; and that objects share nothing. */
public final class AboutTest {
    public static void main(String[] args) {
        NumberSieves x = new NumberSieves();
        compare(x, 0, 0, -1);
        Check.due("spanned(4) of a new object", x.spanned(4), 0);
        Check.due("parted(0) of a new object", x.parted(0), 0);
        Check.due("at(0, 1) of a new object", x.at(0, 1), 0);
        x.sheet();
        compare(x, 1, 0, -1);
        x.span(20, 30);
        compare(x, 1, 30, -1);
        x.span(0, 30);
        compare(x, 1, 30, -1);
        x.part(1);
        compare(x, 1, 30, 0);
        x.part(6469693230L);
        compare(x, 1, 30, 10);
        x.part(-1);
        compare(x, 1, 30, 10);
        x.rule(3);
        x.rule(10);
        x.product(0, 1);
        x.turned(0);
        x.turned(1);
        compare(x, 4, 30, 10);
        compare(new NumberSieves(), 0, 0, -1);
        NumberSieves y = new NumberSieves();
        y.span(1, 5);
        y.part(7);
        y.clear();
        compare(y, 0, 5, 1);
        compare(x, 4, 30, 10);
        // Calls that only ask change nothing.
        x.prime(97);
        x.next(97, true);
        x.count(1000);
        x.sum(1000);
        x.among(1000, 4, 1);
        x.points(1000);
        x.floors(5, 5, 5, 5);
        x.far(1, 1, 1000);
        compare(x, 4, 30, 10);
        Check.due("the span stays", x.least(2), 2);
        Check.due("the number that is parted stays", x.parted(0), 6469693230L);
        x.clear();
        compare(x, 0, 30, 10);
        Check.due("NONE", NumberSieves.NONE, -1);
        Check.end();
    }

    private static void compare(NumberSieves x, int rows, int numbers, int parts) {
        Check.due("about(0)", x.about(0), rows);
        Check.due("about(1)", x.about(1), numbers);
        Check.due("about(2)", x.about(2), parts);
        int[] wrong = {-1, 3, 4, Integer.MAX_VALUE, Integer.MIN_VALUE};
        for (int what : wrong) {
            Check.due("about(" + what + ")", x.about(what), -1);
        }
    }
}
