import java.util.ArrayList;
import java.util.List;
import java.util.function.Consumer;

/** Promises 1 and 27, the 512 calls, and that what is refused or only asked leaves all as it was. */
public final class StateEdgesTest {
    private static final int NONE = -1;
    private static final long TOP = Bench.TOP;

    public static void main(String[] args) {
        theConstant();
        newObject();
        aboutAnswers();
        aboutWithoutANumber();
        aboutOthers();
        refusedCallsLeaveAll();
        askingLeavesAll();
        objectsShareNothing();
        the512thCall();
        fiveHundredOfOneKind();
        Check.end();
    }

    private static void theConstant() {
        Check.sentence("Terms", "The constants: `NONE = -1`: None.");
        Check.due("NONE", NumberSieves.NONE, -1);
    }

    private static void newObject() {
        Check.sentence("Promise 1", "No span, no rows.");
        Bench x = new Bench();
        x.about(0).is(0);
        x.about(1).is(0);
        x.about(2).is(NONE);
        x.spanned(4).is(0);
        x.spanned(0).is(NONE);
        x.least(0).is(0);
        x.at(0, 1).is(0);
        x.same(0, 0).is(NONE);
        x.sheet().is(0);
    }

    private static void aboutAnswers() {
        Check.sentence("Promise 27", "0 rows, 1 numbers of the span, 2 PARTS of the number that is parted");
        Bench x = new Bench();
        for (int row = 0; row < 16; row++) {
            x.about(0).is(row);
            x.sheet();
        }
        x.about(0).is(16);
        x.sheet();
        x.about(0).is(16);
        x.clear();
        x.about(0).is(0);
        x.span(1, 1);
        x.about(1).is(1);
        x.span(TOP - 4999, 5000);
        x.about(1).is(5000);
        x.part(6469693230L);
        x.about(2).is(10);
        x.part(1);
        x.about(2).is(0);
        x.about(1).is(5000);
    }

    private static void aboutWithoutANumber() {
        Check.sentence("Promise 27", "(NONE without one).");
        Bench x = new Bench();
        x.about(2).is(NONE);
        x.part(0);
        x.span(12, 1);
        x.sheet();
        x.about(2).is(NONE);
        x.part(1);
        x.about(2).is(0);
        x.part(0);
        x.about(2).is(0);
    }

    private static void aboutOthers() {
        Check.sentence("Promise 27", "NONE for others.");
        Bench fresh = new Bench();
        Bench x = busy();
        int[] others = {-1, 3, 4, Integer.MAX_VALUE, Integer.MIN_VALUE};
        for (int what : others) {
            fresh.about(what).is(NONE);
            x.about(what).is(NONE);
        }
    }

    /** A span, a number that is parted and four rows, the last of them a sheet. */
    private static Bench busy() {
        Bench x = new Bench();
        setUp(x);
        return x;
    }

    private static void setUp(Bench x) {
        x.span(10, 10);
        x.part(84);
        x.clear();
        x.rule(2);
        x.rule(1);
        x.turned(1);
        x.sheet();
        x.tell(3, 600, -5);
    }

    private static Bench busyWith16Rows() {
        Bench x = busy();
        for (int row = 4; row < 16; row++) {
            x.rule(row % 10);
        }
        return x;
    }

    private static void leavesAll(Bench x, Consumer<Bench> call) {
        String before = x.state();
        call.accept(x);
        Check.holds("all is as it was", x.state().equals(before));
    }

    private static void refused(Consumer<Bench> call) {
        leavesAll(busy(), call);
        leavesAll(busyWith16Rows(), call);
        leavesAll(new Bench(), call);
    }

    private static void refusedCallsLeaveAll() {
        Check.sentence("Promise 2", "NONE, and the former one stays, for others.");
        refused(x -> x.span(0, 5).is(NONE));
        refused(x -> x.span(1, 0).is(NONE));
        refused(x -> x.span(1, 5001).is(NONE));
        refused(x -> x.span(TOP, 2).is(NONE));
        Check.sentence("Promise 8", "NONE, and the former one stays, for others.");
        refused(x -> x.part(0).is(NONE));
        refused(x -> x.part(TOP + 1).is(NONE));
        Check.sentence("Promise 17", "NONE for others");
        refused(x -> x.rule(-1).is(NONE));
        refused(x -> x.rule(10).is(NONE));
        Check.sentence("Promise 19", "False: no such row, n.");
        refused(x -> x.tell(-1, 600, 9).is(false));
        refused(x -> x.tell(16, 1, 9).is(false));
        refused(x -> x.tell(0, 0, 9).is(false));
        refused(x -> x.tell(0, 601, 9).is(false));
        Check.sentence("Promise 20", "NONE: no such rows");
        refused(x -> x.product(0, 16).is(NONE));
        refused(x -> x.product(-1, 0).is(NONE));
        Check.sentence("Promise 21", "NONE: no such row, it can't be");
        refused(x -> x.turned(-1).is(NONE));
        refused(x -> x.turned(16).is(NONE));
        refused(x -> x.turned(3).is(NONE));
        refusedWith16Rows();
    }

    private static void refusedWith16Rows() {
        Check.sentence("Promise 17", ", or if there are 16.");
        leavesAll(busyWith16Rows(), x -> x.rule(9).is(NONE));
        Check.sentence("Promise 18", "NONE if there are 16.");
        leavesAll(busyWith16Rows(), x -> x.sheet().is(NONE));
        Check.sentence("Promise 20", ", or there are 16.");
        leavesAll(busyWith16Rows(), x -> x.product(0, 1).is(NONE));
        Check.sentence("Promise 21", ", or there are 16.");
        leavesAll(busyWith16Rows(), x -> x.turned(0).is(NONE));
    }

    private static void askingLeavesAll() {
        Check.sentence("Not promised", "Nothing is promised beyond the answers and state changes described above");
        leavesAll(busyWith16Rows(), StateEdgesTest::askAll);
        leavesAll(new Bench(), StateEdgesTest::askAll);
    }

    private static void askAll(Bench x) {
        x.least(3);
        x.smooth(7, true);
        x.prime(9999999967L);
        x.next(TOP, true);
        x.next(113, false);
        x.parts(0, 1);
        x.parted(2);
        x.without(TOP);
        x.count(2000000);
        x.sum(1999);
        x.among(2000000, 7, 3);
        x.among(5000, 12, 5);
        x.floors(1000, 999, 998, 997);
        x.points(123456789);
        x.far(9, 2, 1000000);
        x.sumOf(0, 600);
        x.same(0, 1);
        x.about(2);
    }

    private static void objectsShareNothing() {
        Check.sentence("Promise 1", "No span, no rows.");
        Bench x = busyWith16Rows();
        String before = x.state();
        Bench y = new Bench();
        y.about(0).is(0);
        y.about(1).is(0);
        y.about(2).is(NONE);
        y.span(1, 30);
        y.part(7);
        y.rule(9);
        y.tell(0, 1, 3);
        y.count(100);
        Check.holds("the other object stays as it was", x.state().equals(before));
        x.clear();
        y.about(0).is(1);
        y.at(0, 1).is(3);
    }

    /** Each call of the face with its answer after setUp. */
    private static List<Consumer<Bench>> lastCalls() {
        List<Consumer<Bench>> calls = new ArrayList<>();
        calls.add(x -> x.span(1, 5000).is(669));
        calls.add(x -> x.least(9).is(19));
        calls.add(x -> x.spanned(1).is(4));
        calls.add(x -> x.smooth(3, false).is(3));
        calls.add(x -> x.prime(9999999967L).is(1));
        calls.add(x -> x.next(TOP, true).is(9999999967L));
        calls.add(x -> x.part(6469693230L).is(10));
        calls.add(x -> x.parts(2, 0).is(7));
        calls.add(x -> x.parted(2).is(224));
        calls.add(x -> x.without(10).is(2));
        calls.add(x -> x.count(2000000).is(148933));
        calls.add(x -> x.sum(2000000).is(142913828922L));
        calls.add(x -> x.among(2000000, 60, 59).is(9332));
        calls.add(x -> x.floors(1000000000, 1000000, 1000000, 1).is(1002382102603448320L));
        calls.add(x -> x.points(TOP).is(231802823220L));
        calls.add(x -> x.rule(5).is(4));
        calls.add(x -> x.sheet().is(4));
        calls.add(x -> x.tell(3, 1, 5).is(true));
        calls.add(x -> x.product(0, 1).is(4));
        calls.add(x -> x.turned(0).is(4));
        calls.add(x -> x.at(3, 600).is(-5));
        calls.add(x -> x.sumOf(0, 600).is(180300));
        calls.add(x -> x.same(0, 1).is(2));
        calls.add(x -> x.far(9, 9, 1000000000).is(-2466741738554295341L));
        calls.add(x -> x.about(0).is(4));
        return calls;
    }

    private static void the512thCall() {
        Check.sentence("What it is", "An object is used for at most 512 calls after it has been made;");
        Bench measured = busy();
        int idle = Bench.CALLS_MOST - 1 - measured.calls();
        for (Consumer<Bench> last : lastCalls()) {
            Bench x = new Bench();
            for (int k = 0; k < idle; k++) {
                dearCall(x, k);
            }
            setUp(x);
            last.accept(x);
            Check.due("calls that were made", x.calls(), Bench.CALLS_MOST);
        }
    }

    /** The calls that need the most room, one after the other. */
    private static void dearCall(Bench x, int k) {
        switch (k % 9) {
            case 0 -> x.span(TOP - 4999 - k, 5000);
            case 1 -> x.part(6469693230L + k);
            case 2 -> x.count(2000000 - k);
            case 3 -> x.among(2000000 - k, 4, 1);
            case 4 -> x.rule(k % 10);
            case 5 -> x.sheet();
            case 6 -> x.turned(0);
            case 7 -> x.product(0, 0);
            default -> x.next(1000000 + k, k % 2 == 0);
        }
    }

    private static void fiveHundredOfOneKind() {
        Check.sentence("What it is", "An object is used for at most 512 calls after it has been made;");
        Bench spans = new Bench();
        Bench numbers = new Bench();
        Bench told = new Bench();
        Bench cleared = new Bench();
        told.sheet();
        for (int k = 1; k <= 510; k++) {
            spans.span(k, k);
            numbers.part(k);
            told.tell(0, k, k).is(true);
            if (k % 17 == 0) {
                cleared.clear();
            } else {
                cleared.rule(2).is(k % 17 - 1);
            }
        }
        spans.spanned(4).is(510);
        spans.least(509).is(1019);
        numbers.parted(5).is(510);
        numbers.parted(1).is(16);
        told.sumOf(0, 510).is(510 * 511 / 2);
        cleared.about(0).is(0);
        cleared.sheet().is(0);
    }
}
