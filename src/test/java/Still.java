/** A StillText that counts its calls: of what is answered behind the 512th, the document says nothing. */
final class Still {
    static final int MOST_CALLS = 512;

    private final StillText still = new StillText();
    private int calls;

    private StillText called() {
        calls++;
        if (calls > MOST_CALLS) {
            throw new IllegalStateException("a test asks one object more than " + MOST_CALLS + " times");
        }
        return still;
    }

    int callsLeft() {
        return MOST_CALLS - calls;
    }

    int feed(int a, int b, int c, int d, int e) {
        return called().feed(a, b, c, d, e);
    }

    boolean end(int n) {
        return called().end(n);
    }

    int text() {
        return called().text();
    }

    int fault(int what) {
        return called().fault(what);
    }

    int put(int k) {
        return called().put(k);
    }

    int unit(int k, int what) {
        return called().unit(k, what);
    }

    boolean measure(int longest, int spread) {
        return called().measure(longest, spread);
    }

    boolean strains(int shortest, int phrase, int inner, int cut, int river) {
        return called().strains(shortest, phrase, inner, cut, river);
    }

    int like(int a, int b, int v) {
        return called().like(a, b, v);
    }

    int set() {
        return called().set();
    }

    int lines() {
        return called().lines();
    }

    int line(int k, int what) {
        return called().line(k, what);
    }

    int sign(int k, int i) {
        return called().sign(k, i);
    }

    int rivers(int n) {
        return called().rivers(n);
    }

    boolean page(int rows, int tints) {
        return called().page(rows, tints);
    }

    int mark(int k) {
        return called().mark(k);
    }

    int marked(int m, int what) {
        return called().marked(m, what);
    }

    boolean test(int i, int j, int lead) {
        return called().test(i, j, lead);
    }

    int tested(int what) {
        return called().tested(what);
    }

    int answer(boolean best) {
        return called().answer(best);
    }

    boolean use() {
        return called().use();
    }
}
