import java.util.ArrayList;
import java.util.Collection;
import java.util.List;

/** A run of calls that a bench and the model both get: right, edge and wrong arguments, mixed. */
final class Mix {
    /** The calls of the face. */
    enum Kind {
        SPAN, LEAST, SPANNED, SMOOTH, PRIME, NEXT, PART, PARTS, PARTED, WITHOUT, COUNT, SUM, AMONG, FLOORS, POINTS,
        RULE, SHEET, TELL, PRODUCT, TURNED, CLEAR, AT, SUM_OF, SAME, FAR, ABOUT
    }

    private static final long TOP = Plain.TOP;
    private static final int COUNT_TOP = PrimeTable.TOP;
    private static final long[] NUMBERS = {1, 2, 3, 4, 30, 97, 360, 2147483647L, 2147483648L, 4294967297L,
        6469693230L, 8589934592L, 9998200081L, 9999999967L, TOP - 1, TOP};

    final Bench x = new Bench();
    final Model model = new Model();
    private final String name;
    private final Plain.Mixed mixed;

    Mix(String name, long seed) {
        this.name = name + " " + seed;
        this.mixed = new Plain.Mixed(seed);
    }

    void calls(int many, Collection<Kind> kinds) {
        List<Kind> choice = new ArrayList<>(kinds);
        for (int k = 0; k < many; k++) {
            call(choice.get(below(choice.size())));
        }
    }

    void call(Kind kind) {
        Check.in(name + ", call " + (x.calls() + 1));
        switch (kind) {
            case SPAN, LEAST, SPANNED, SMOOTH -> spanCall(kind);
            case PRIME, NEXT, PART, PARTS, PARTED, WITHOUT -> numberCall(kind);
            case COUNT, SUM, AMONG, FLOORS, POINTS, FAR -> sumCall(kind);
            case RULE, SHEET, TELL, PRODUCT, TURNED, CLEAR -> rowCall(kind);
            case AT, SUM_OF, SAME, ABOUT -> lookCall(kind);
        }
    }

    private int below(int end) {
        return (int) mixed.from(0, end - 1);
    }

    private int among(int low, int high) {
        return (int) mixed.from(low, high);
    }

    private boolean isOneIn(int many) {
        return below(many) == 0;
    }

    /** A number 1 .. 10000000000, or now and then one beside them. */
    private long number() {
        return switch (below(6)) {
            case 0, 1 -> mixed.from(1, 200);
            case 2 -> mixed.from(1, 1000000);
            case 3 -> mixed.from(1, TOP);
            case 4 -> NUMBERS[below(NUMBERS.length)];
            default -> isOneIn(3) ? wrongNumber() : mixed.from(TOP - 200, TOP);
        };
    }

    private long wrongNumber() {
        long[] wrong = {0, -1, TOP + 1, Long.MIN_VALUE, Long.MAX_VALUE, 4294967296L * 7};
        return wrong[below(wrong.length)];
    }

    private int count() {
        return switch (below(8)) {
            case 0, 1, 2 -> below(130);
            case 3, 4 -> below(30000);
            case 5 -> below(COUNT_TOP + 1);
            case 6 -> among(COUNT_TOP - 60, COUNT_TOP);
            default -> isOneIn(2) ? -1 - below(5) : COUNT_TOP + 1 + below(5);
        };
    }

    /** Up to top, or now and then beside 0 .. top. */
    private int upTo(int top) {
        return switch (below(8)) {
            case 0, 1, 2 -> below(40);
            case 3, 4 -> below(top + 1);
            case 5 -> below(1000);
            case 6 -> top - below(3);
            default -> isOneIn(2) ? -below(2) : top + below(2);
        };
    }

    /** Mostly one that is there. */
    private int row() {
        return isOneIn(8) ? among(-1, 16) : below(Math.max(1, model.rowCount()));
    }

    private int place() {
        return isOneIn(4) ? among(-1, 3) : isOneIn(6) ? among(598, 602) : among(1, 600);
    }

    private void spanCall(Kind kind) {
        switch (kind) {
            case SPAN -> anySpan();
            case LEAST -> {
                int i = among(-1, model.numbers());
                x.least(i).is(model.least(i));
            }
            case SPANNED -> {
                int what = among(-1, 5);
                x.spanned(what).is(model.spanned(what));
            }
            default -> {
                long b = isOneIn(2) ? number() : among(0, 40);
                boolean rough = isOneIn(2);
                x.smooth(b, rough).is(model.smooth(b, rough));
            }
        }
    }

    private void anySpan() {
        int many = isOneIn(10) ? among(-1, 1) : among(1, 60);
        if (isOneIn(30)) {
            many = among(4999, 5001);
        }
        span(number(), many);
    }

    void span(long from, int many) {
        x.span(from, many).is(model.span(from, many));
    }

    void part(long n) {
        x.part(n).is(model.part(n));
    }

    private void numberCall(Kind kind) {
        long n = number();
        boolean down = isOneIn(2);
        switch (kind) {
            case PRIME -> x.prime(n).is(model.prime(n));
            case NEXT -> x.next(n, down).is(model.next(n, down));
            case PART -> part(n);
            case PARTS -> {
                int i = among(-1, isOneIn(4) ? 10 : 3);
                int what = among(-1, 2);
                x.parts(i, what).is(model.parts(i, what));
            }
            case PARTED -> {
                int what = among(-1, 6);
                x.parted(what).is(model.parted(what));
            }
            default -> {
                long end = isOneIn(10) ? 0 : n;
                x.without(end).is(model.without(end));
            }
        }
    }

    private void sumCall(Kind kind) {
        switch (kind) {
            case COUNT -> {
                int n = count();
                x.count(n).is(model.count(n));
            }
            case SUM -> {
                int n = count();
                x.sum(n).is(model.sum(n));
            }
            case AMONG -> {
                int n = count();
                int m = isOneIn(10) ? among(-1, 62) : among(1, 60);
                int r = isOneIn(8) ? among(-1, 61) : below(Math.max(1, m));
                x.among(n, m, r).is(model.among(n, m, r));
            }
            case FLOORS -> {
                int n = upTo(1000000000);
                int a = upTo(1000000);
                int b = upTo(1000000);
                int m = upTo(1000000);
                x.floors(n, a, b, m).is(model.floors(n, a, b, m));
            }
            case POINTS -> {
                long n = isOneIn(10) ? 0 : number();
                x.points(n).is(model.points(n));
            }
            default -> {
                int[] rules = {0, 1, 2, 9, 1, 2, 9, among(-1, 10)};
                int a = rules[below(rules.length)];
                int b = rules[below(rules.length)];
                int n = isOneIn(20) ? upTo(1000000000) : below(100000);
                x.far(a, b, n).is(model.far(a, b, n));
            }
        }
    }

    private void rowCall(Kind kind) {
        switch (kind) {
            case RULE -> {
                int which = among(-1, 10);
                x.rule(which).is(model.rule(which));
            }
            case SHEET -> x.sheet().is(model.sheet());
            case TELL -> {
                int row = row();
                int n = place();
                long v = isOneIn(3) ? mixed.any() : among(-2, 2);
                x.tell(row, n, v).is(model.tell(row, n, v));
            }
            case PRODUCT -> {
                int a = row();
                int b = row();
                x.product(a, b).is(model.product(a, b));
            }
            case TURNED -> {
                int a = row();
                x.turned(a).is(model.turned(a));
            }
            default -> {
                x.clear();
                model.clear();
            }
        }
    }

    private void lookCall(Kind kind) {
        int row = row();
        int n = place();
        switch (kind) {
            case AT -> x.at(row, n).is(model.at(row, n));
            case SUM_OF -> x.sumOf(row, n).is(model.sumOf(row, n));
            case SAME -> {
                int b = row();
                x.same(row, b).is(model.same(row, b));
            }
            default -> {
                int what = among(-1, 3);
                x.about(what).is(model.about(what));
            }
        }
    }

    /** All of a span of some 30 numbers, with some 50 calls; its answers in a row. */
    String lookAtSpan() {
        Check.in(name + ", the span after " + x.calls() + " calls");
        List<Bench.Answer> seen = new ArrayList<>();
        for (int i = -1; i <= model.numbers(); i++) {
            seen.add(as(x.least(i), model.least(i)));
        }
        for (int what = -1; what <= 5; what++) {
            seen.add(as(x.spanned(what), model.spanned(what)));
        }
        long[] bounds = {1, 2, 5, 100, TOP};
        for (long b : bounds) {
            seen.add(as(x.smooth(b, false), model.smooth(b, false)));
            seen.add(as(x.smooth(b, true), model.smooth(b, true)));
        }
        seen.add(as(x.about(1), model.about(1)));
        return seen.toString();
    }

    /** All of the number that is parted, with some 40 calls; its answers in a row. */
    String lookAtParts() {
        Check.in(name + ", the parts after " + x.calls() + " calls");
        List<Bench.Answer> seen = new ArrayList<>();
        for (int i = -1; i <= model.about(2); i++) {
            seen.add(as(x.parts(i, 0), model.parts(i, 0)));
            seen.add(as(x.parts(i, 1), model.parts(i, 1)));
        }
        for (int what = -1; what <= 6; what++) {
            seen.add(as(x.parted(what), model.parted(what)));
        }
        long[] ends = {0, 1, 10, 1000, TOP};
        for (long n : ends) {
            seen.add(as(x.without(n), model.without(n)));
        }
        seen.add(as(x.about(2), model.about(2)));
        return seen.toString();
    }

    /** Some of each row and of those that are not there, with 8 calls a row; the answers in a row. */
    String lookAtRows(int rows) {
        Check.in(name + ", the rows after " + x.calls() + " calls");
        List<Bench.Answer> seen = new ArrayList<>();
        int[] places = {1, 2, 12, 97, 599, 600};
        for (int row = 0; row < rows; row++) {
            for (int n : places) {
                seen.add(as(x.at(row, n), model.at(row, n)));
            }
            seen.add(as(x.sumOf(row, 600), model.sumOf(row, 600)));
            seen.add(as(x.same(row, 0), model.same(row, 0)));
        }
        seen.add(as(x.about(0), model.about(0)));
        return seen.toString();
    }

    private static Bench.Answer as(Bench.Answer answer, long want) {
        answer.is(want);
        return answer;
    }
}
