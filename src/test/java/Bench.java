import java.util.Arrays;

/** An object under test that tells its calls, and minds that it gets no more than the promised 512. */
final class Bench {
    static final int CALLS_MOST = 512;
    static final long TOP = 10000000000L;

    private final NumberSieves x = new NumberSieves();
    private int calls = 0;

    /** An answer with the call that it came from. */
    record Answer(String call, long got) {
        void is(long want) {
            Check.due(call, got, want);
        }

        void is(boolean want) {
            Check.due(call, got, want ? 1 : 0);
        }
    }

    int calls() {
        return calls;
    }

    private Answer told(long got, String name, Object... arguments) {
        calls++;
        if (calls > CALLS_MOST) {
            Check.holds("call " + calls + " is one of the promised ones", false);
        }
        String list = Arrays.toString(arguments);
        return new Answer(name + "(" + list.substring(1, list.length() - 1) + ")", got);
    }

    Answer span(long from, int many) {
        return told(x.span(from, many), "span", from, many);
    }

    Answer least(int i) {
        return told(x.least(i), "least", i);
    }

    Answer spanned(int what) {
        return told(x.spanned(what), "spanned", what);
    }

    Answer smooth(long b, boolean rough) {
        return told(x.smooth(b, rough), "smooth", b, rough);
    }

    Answer prime(long n) {
        return told(x.prime(n), "prime", n);
    }

    Answer next(long n, boolean down) {
        return told(x.next(n, down), "next", n, down);
    }

    Answer part(long n) {
        return told(x.part(n), "part", n);
    }

    Answer parts(int i, int what) {
        return told(x.parts(i, what), "parts", i, what);
    }

    Answer parted(int what) {
        return told(x.parted(what), "parted", what);
    }

    Answer without(long n) {
        return told(x.without(n), "without", n);
    }

    Answer count(int n) {
        return told(x.count(n), "count", n);
    }

    Answer sum(int n) {
        return told(x.sum(n), "sum", n);
    }

    Answer among(int n, int m, int r) {
        return told(x.among(n, m, r), "among", n, m, r);
    }

    Answer floors(int n, int a, int b, int m) {
        return told(x.floors(n, a, b, m), "floors", n, a, b, m);
    }

    Answer points(long n) {
        return told(x.points(n), "points", n);
    }

    Answer rule(int which) {
        return told(x.rule(which), "rule", which);
    }

    Answer sheet() {
        return told(x.sheet(), "sheet");
    }

    Answer tell(int row, int n, long v) {
        return told(x.tell(row, n, v) ? 1 : 0, "tell", row, n, v);
    }

    Answer product(int a, int b) {
        return told(x.product(a, b), "product", a, b);
    }

    Answer turned(int a) {
        return told(x.turned(a), "turned", a);
    }

    void clear() {
        x.clear();
        told(0, "clear");
    }

    Answer at(int row, int n) {
        return told(x.at(row, n), "at", row, n);
    }

    Answer sumOf(int row, int n) {
        return told(x.sumOf(row, n), "sumOf", row, n);
    }

    Answer same(int a, int b) {
        return told(x.same(a, b), "same", a, b);
    }

    Answer far(int a, int b, int n) {
        return told(x.far(a, b, n), "far", a, b, n);
    }

    Answer about(int what) {
        return told(x.about(what), "about", what);
    }

    /** All that can be seen of the state, with some 200 calls at most. */
    String state() {
        StringBuilder seen = new StringBuilder();
        for (int what = 0; what <= 2; what++) {
            seen.append(about(what)).append('\n');
        }
        for (int what = 0; what <= 4; what++) {
            seen.append(spanned(what)).append('\n');
        }
        for (int i = 0; i <= 20; i++) {
            seen.append(least(i)).append('\n');
        }
        seen.append(smooth(3, false)).append(smooth(3, true)).append('\n');
        for (int what = 0; what <= 5; what++) {
            seen.append(parted(what)).append('\n');
        }
        for (int i = 0; i <= 4; i++) {
            seen.append(parts(i, 0)).append(parts(i, 1)).append('\n');
        }
        seen.append(without(100)).append('\n');
        for (int row = 0; row <= 16; row++) {
            for (int n = 1; n <= 600; n = n == 4 ? 599 : n + 1) {
                seen.append(at(row, n)).append('\n');
            }
            seen.append(sumOf(row, 600)).append(same(0, row)).append('\n');
        }
        return seen.toString();
    }
}
