/** A LoanWays whose calls are counted: the document promises nothing behind the 512th. */
final class Watched {
    static final int MOST_CALLS = 512;

    private final LoanWays ways = new LoanWays();
    private int calls;

    int calls() {
        return calls;
    }

    private LoanWays called() {
        calls++;
        if (calls > MOST_CALLS) {
            throw new IllegalStateException("a test makes more than " + MOST_CALLS + " calls");
        }
        return ways;
    }

    int variable(int sort, int leaves) {
        return called().variable(sort, leaves);
    }

    int begins(int v, boolean is) {
        return called().begins(v, is);
    }

    int act(int p, int act, int v, int path) {
        return called().act(p, act, v, path);
    }

    int lend(int p, int to, int v, int path) {
        return called().lend(p, to, v, path);
    }

    int copy(int p, int to, int from) {
        return called().copy(p, to, from);
    }

    int next(int p, int q, boolean is) {
        return called().next(p, q, is);
    }

    int judge() {
        return called().judge();
    }

    int fault(int what) {
        return called().fault(what);
    }

    int comes(int p) {
        return called().comes(p);
    }

    int held(int p, int v, int leaf) {
        return called().held(p, v, leaf);
    }

    int holds(int p, int v, int l) {
        return called().holds(p, v, l);
    }

    int used(int p, int v) {
        return called().used(p, v);
    }

    int force(int l, int p) {
        return called().force(l, p);
    }

    int count(int what) {
        return called().count(what);
    }

    /** Makes each point the next one of the point ahead of it. */
    void chain(int... points) {
        for (int i = 0; i + 1 < points.length; i++) {
            next(points[i], points[i + 1], true);
        }
    }
}
