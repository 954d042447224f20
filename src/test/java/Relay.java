import java.util.ArrayList;
import java.util.List;
import java.util.function.Consumer;

/**
 * Stands for an object that gets any number of calls: when the promised 512 are used up, a new object
 * gets the calls that made the state and goes on.
 */
final class Relay {
    private static final int NONE = NumberSieves.NONE;
    // So that a new object has calls left after it has been brought to the state.
    private static final int MAKERS_MOST = 400;

    private NumberSieves x = new NumberSieves();
    private int calls = 0;
    private Consumer<NumberSieves> spanMaker = null;
    private Consumer<NumberSieves> partMaker = null;
    private final List<Consumer<NumberSieves>> rowMakers = new ArrayList<>();

    private NumberSieves ready() {
        if (calls == Bench.CALLS_MOST) {
            renew();
        }
        calls++;
        return x;
    }

    private void renew() {
        List<Consumer<NumberSieves>> makers = new ArrayList<>(rowMakers);
        if (spanMaker != null) {
            makers.add(spanMaker);
        }
        if (partMaker != null) {
            makers.add(partMaker);
        }
        Check.holds(makers.size() + " calls that make the state are few enough", makers.size() <= MAKERS_MOST);
        x = new NumberSieves();
        makers.forEach(maker -> maker.accept(x));
        calls = makers.size();
    }

    int span(long from, int many) {
        int answer = ready().span(from, many);
        if (answer != NONE) {
            spanMaker = y -> y.span(from, many);
        }
        return answer;
    }

    long least(int i) {
        return ready().least(i);
    }

    int spanned(int what) {
        return ready().spanned(what);
    }

    int smooth(long b, boolean rough) {
        return ready().smooth(b, rough);
    }

    int prime(long n) {
        return ready().prime(n);
    }

    long next(long n, boolean down) {
        return ready().next(n, down);
    }

    int part(long n) {
        int answer = ready().part(n);
        if (answer != NONE) {
            partMaker = y -> y.part(n);
        }
        return answer;
    }

    long parts(int i, int what) {
        return ready().parts(i, what);
    }

    long parted(int what) {
        return ready().parted(what);
    }

    long without(long n) {
        return ready().without(n);
    }

    int count(int n) {
        return ready().count(n);
    }

    long sum(int n) {
        return ready().sum(n);
    }

    int among(int n, int m, int r) {
        return ready().among(n, m, r);
    }

    long floors(int n, int a, int b, int m) {
        return ready().floors(n, a, b, m);
    }

    long points(long n) {
        return ready().points(n);
    }

    private int madeRow(int answer, Consumer<NumberSieves> maker) {
        if (answer != NONE) {
            rowMakers.add(maker);
        }
        return answer;
    }

    int rule(int which) {
        return madeRow(ready().rule(which), y -> y.rule(which));
    }

    int sheet() {
        return madeRow(ready().sheet(), NumberSieves::sheet);
    }

    boolean tell(int row, int n, long v) {
        boolean answer = ready().tell(row, n, v);
        if (answer) {
            rowMakers.add(y -> y.tell(row, n, v));
        }
        return answer;
    }

    int product(int a, int b) {
        return madeRow(ready().product(a, b), y -> y.product(a, b));
    }

    int turned(int a) {
        return madeRow(ready().turned(a), y -> y.turned(a));
    }

    void clear() {
        ready().clear();
        rowMakers.clear();
    }

    long at(int row, int n) {
        return ready().at(row, n);
    }

    long sumOf(int row, int n) {
        return ready().sumOf(row, n);
    }

    int same(int a, int b) {
        return ready().same(a, b);
    }

    long far(int a, int b, int n) {
        return ready().far(a, b, n);
    }

    int about(int what) {
        return ready().about(what);
    }
}
