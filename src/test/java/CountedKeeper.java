/** A keeper that counts its calls, since nothing is promised behind the 512th: no test may lean on that. */
final class CountedKeeper {
    static final int MOST_CALLS = 512;

    private final NumberKeeper keeper = new NumberKeeper();
    private int calls;

    /** How many calls more the document makes a promise for. */
    int left() {
        return MOST_CALLS - calls;
    }

    private NumberKeeper next() {
        calls++;
        if (calls > MOST_CALLS) {
            throw new IllegalStateException("a test makes more than " + MOST_CALLS + " calls on one object");
        }
        return keeper;
    }

    int feed(int a, int b, int c, int d, int e) {
        return next().feed(a, b, c, d, e);
    }

    int end(int n) {
        return next().end(n);
    }

    int word(int kind) {
        return next().word(kind);
    }

    int form(int kind, int scope, int style, int join) {
        return next().form(kind, scope, style, join);
    }

    int add(int kind, int on, int i) {
        return next().add(kind, on, i);
    }

    int move(int x, int on, int i) {
        return next().move(x, on, i);
    }

    int cut(int x) {
        return next().cut(x);
    }

    int join(int x, int y) {
        return next().join(x, y);
    }

    int undo() {
        return next().undo();
    }

    int thing(int x, int what) {
        return next().thing(x, what);
    }

    int at(int place) {
        return next().at(place);
    }

    int told(int x, int i) {
        return next().told(x, i);
    }

    int twins() {
        return next().twins();
    }

    int mention(int in, int kind, int of) {
        return next().mention(in, kind, of);
    }

    int range(int in, int kind, int a, int b) {
        return next().range(in, kind, a, b);
    }

    int frozen(int in, int of, int e) {
        return next().frozen(in, of, e);
    }

    int about(int m, int what) {
        return next().about(m, what);
    }

    int text(int m, int i) {
        return next().text(m, i);
    }

    int trouble() {
        return next().trouble();
    }

    int edition() {
        return next().edition();
    }

    int old(int e, int kind) {
        return next().old(e, kind);
    }

    int leads(int e, int x) {
        return next().leads(e, x);
    }

    int changed(int e) {
        return next().changed(e);
    }

    int read(int in) {
        return next().read(in);
    }

    int finding(int i, int what) {
        return next().finding(i, what);
    }

    int count(int what) {
        return next().count(what);
    }
}
