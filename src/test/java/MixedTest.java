import java.util.EnumSet;
import java.util.Set;

/**
 * Runs of up to 512 calls that mix all promises on one object, each answer compared with the model's; and
 * that a span, a number that is parted and the rows stay while calls of the other kinds come between.
 */
public final class MixedTest {
    private static final int NONE = -1;
    private static final Set<Mix.Kind> ALL = EnumSet.allOf(Mix.Kind.class);
    private static final Set<Mix.Kind> ROW_CHANGES = EnumSet.range(Mix.Kind.RULE, Mix.Kind.CLEAR);
    private static final Set<Mix.Kind> ROW_CALLS = EnumSet.range(Mix.Kind.RULE, Mix.Kind.SAME);
    private static final Set<Mix.Kind> SPAN_CALLS = EnumSet.range(Mix.Kind.SPAN, Mix.Kind.SMOOTH);
    private static final Set<Mix.Kind> PART_CALLS = EnumSet.range(Mix.Kind.PART, Mix.Kind.WITHOUT);

    public static void main(String[] args) {
        for (int seed = 1; seed <= 60; seed++) {
            new Mix("all kinds", seed).calls(Bench.CALLS_MOST, ALL);
            new Mix("without clear", seed).calls(Bench.CALLS_MOST, without(ALL, EnumSet.of(Mix.Kind.CLEAR)));
        }
        for (int seed = 1; seed <= 4; seed++) {
            eachBesideEach(seed);
        }
        for (int seed = 1; seed <= 20; seed++) {
            new Mix("rows", seed).calls(Bench.CALLS_MOST, ROW_CALLS);
            new Mix("spans", seed).calls(Bench.CALLS_MOST, SPAN_CALLS);
            new Mix("parts", seed).calls(Bench.CALLS_MOST, PART_CALLS);
            spanStays(seed);
            partsStay(seed);
            rowsStay(seed);
            clearTakesTheRowsAlone(seed);
            refusedCallsBetween(seed);
        }
        Check.end();
    }

    private static Set<Mix.Kind> without(Set<Mix.Kind> kinds, Set<Mix.Kind> others) {
        Set<Mix.Kind> left = EnumSet.copyOf(kinds);
        left.removeAll(others);
        return left;
    }

    /** Each kind right before and right behind each other one. */
    private static void eachBesideEach(int seed) {
        for (Mix.Kind kind : ALL) {
            Mix run = ready(kind + " beside each", seed);
            for (Mix.Kind other : ALL) {
                run.call(kind);
                run.call(other);
            }
            run.lookAtParts();
            run.lookAtRows(16);
        }
    }

    /** A span of 30 numbers, a number that is parted and some ten rows. */
    private static Mix ready(String name, int seed) {
        Mix run = new Mix(name, seed);
        run.span(1 + 700021L * seed * seed * seed % 9999999900L, 30);
        run.part(9699690L * seed);
        run.x.rule(seed % 10).is(run.model.rule(seed % 10));
        run.x.rule(1).is(run.model.rule(1));
        run.x.turned(1).is(run.model.turned(1));
        run.x.sheet().is(run.model.sheet());
        run.x.product(0, 2).is(run.model.product(0, 2));
        run.calls(10, without(ROW_CHANGES, EnumSet.of(Mix.Kind.CLEAR)));
        return run;
    }

    private static void spanStays(int seed) {
        Mix run = ready("the span stays", seed);
        String before = run.lookAtSpan();
        run.calls(350, without(ALL, EnumSet.of(Mix.Kind.SPAN)));
        String after = run.lookAtSpan();
        Check.holds("it is " + before, after.equals(before));
    }

    private static void partsStay(int seed) {
        Mix run = ready("the parts stay", seed);
        String before = run.lookAtParts();
        run.calls(400, without(ALL, EnumSet.of(Mix.Kind.PART)));
        String after = run.lookAtParts();
        Check.holds("they are " + before, after.equals(before));
    }

    private static void rowsStay(int seed) {
        Mix run = ready("the rows stay", seed);
        String before = run.lookAtRows(16);
        run.calls(230, without(ALL, ROW_CHANGES));
        String after = run.lookAtRows(16);
        Check.holds("they are " + before, after.equals(before));
    }

    private static void clearTakesTheRowsAlone(int seed) {
        Mix run = ready("clear", seed);
        // Rows to the last one, so that each of them has something to lose.
        for (int row = run.model.rowCount(); row < 16; row++) {
            run.x.rule(2 + row % 8).is(run.model.rule(2 + row % 8));
        }
        run.calls(60, without(ALL, EnumSet.of(Mix.Kind.CLEAR, Mix.Kind.SPAN)));
        String span = run.lookAtSpan();
        String parts = run.lookAtParts();
        run.call(Mix.Kind.CLEAR);
        run.x.about(0).is(0);
        for (int row = 0; row < 16; row++) {
            run.x.at(row, 600).is(0);
            run.x.sumOf(row, 600).is(0);
            run.x.same(row, row).is(NONE);
            run.x.turned(row).is(NONE);
        }
        Check.holds("the span is " + span, run.lookAtSpan().equals(span));
        Check.holds("the parts are " + parts, run.lookAtParts().equals(parts));
        run.x.sheet().is(run.model.sheet());
        run.x.rule(1).is(run.model.rule(1));
        run.x.product(0, 1).is(run.model.product(0, 1));
        run.lookAtRows(4);
        run.calls(Bench.CALLS_MOST - run.x.calls(), ALL);
    }

    private static void refusedCallsBetween(int seed) {
        Mix run = ready("refused calls", seed);
        String before = run.lookAtSpan() + run.lookAtParts() + run.lookAtRows(10);
        for (int k = 0; k < 15; k++) {
            run.x.span(0, 1 + k).is(NONE);
            run.x.span(1 + k, 5001).is(NONE);
            run.x.part(-k).is(NONE);
            run.x.part(Plain.TOP + 1 + k).is(NONE);
            run.x.rule(10 + k).is(NONE);
            run.x.tell(16 + k, 1, 1).is(false);
            run.x.tell(0, 601 + k, 1).is(false);
            run.x.product(0, 16 + k).is(NONE);
            run.x.turned(-1 - k).is(NONE);
        }
        String after = run.lookAtSpan() + run.lookAtParts() + run.lookAtRows(10);
        Check.holds("all is " + before, after.equals(before));
    }
}
