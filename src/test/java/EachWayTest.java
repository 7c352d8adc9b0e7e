import java.util.ArrayDeque;
import java.util.HashSet;
import java.util.Random;
import java.util.Set;

/**
 * Small programs on few points, each followed on every way with all that is so on it: what is held
 * on all ways and on some, what is lent on any, and what is used and taken on one of them.
 */
public final class EachWayTest {
    private static final int RUNS = 12000;
    private static final int[] POINTS = {0, 7, 3, 149, 5, 8, 2};
    private static final int SIZE = POINTS.length;

    private static final int READ = 1;
    private static final int MOVE = 2;
    private static final int GIVE = 3;
    private static final int CHANGE = 4;
    private static final int LET = 5;
    private static final int END = 6;
    private static final int LEND = 7;
    private static final int COPY = 8;
    private static final int BEHIND = 5;

    private static final int[] KINDS = {0, READ, READ, MOVE, GIVE, CHANGE, LET, END, COPY, LEND, LEND};

    /** What takes nothing but by COPY: programs that do not break for want of a leaf. */
    private static final int[] GENTLE_KINDS = {READ, READ, READ, GIVE, CHANGE, END, COPY, LEND, LEND, LEND};

    /** Plain of one leaf, plain of two, two shared references, three sole ones; and their first leaves. */
    private static final int[] SORTS = {0, 0, 1, 1, 2, 2, 2};
    private static final int[] LEAVES = {1, 2, 1, 1, 1, 1, 1};
    private static final int[] FIRST_LEAF = {0, 1, 3, 4, 5, 6, 7};
    private static final int VARIABLES = SORTS.length;
    private static final int FIRST_REFERENCE = 2;
    private static final int LEAF_BITS = 8;

    private static int wrong = 0;
    private static final int[] seen = new int[5];

    private final Random random;
    private final boolean gentle;
    private final Watched x = new Watched();
    private final StringBuilder told = new StringBuilder();
    private final int[] kinds = new int[SIZE];
    private final int[] vars = new int[SIZE];
    private final int[] paths = new int[SIZE];
    private final int[] receivers = new int[SIZE];
    private final boolean[][] next = new boolean[SIZE][SIZE];
    private int begun = 0;
    private int often = 0;

    /** Of each point: the leaves held on some way there and not held on some, and who holds which loans. */
    private final boolean[] come = new boolean[SIZE];
    private final int[] heldOnSome = new int[SIZE];
    private final int[] lackedOnSome = new int[SIZE];
    private final int[][] holdings = new int[SIZE][VARIABLES];

    private EachWayTest(int seed) {
        random = new Random(seed);
        gentle = seed % 2 == 0;
    }

    private void due(String call, int got, int want) {
        if (got != want) {
            wrong++;
            if (wrong <= 5) {
                System.out.println(told + call + " answered " + got + ", due is " + want);
            }
        }
    }

    // ---- the program

    private static boolean isReference(int v) {
        return SORTS[v] != 0;
    }

    private static boolean isSole(int v) {
        return SORTS[v] == 2;
    }

    private int anyReference() {
        return FIRST_REFERENCE + random.nextInt(VARIABLES - FIRST_REFERENCE);
    }

    /** Mostly the one that is lent often, or one that something has been lent to. */
    private int anyVariable(int i) {
        int earlier = i == 0 ? -1 : receivers[random.nextInt(i)];
        switch (random.nextInt(5)) {
            case 0:
                return random.nextInt(VARIABLES);
            case 1:
            case 2:
                return earlier >= 0 ? earlier : often;
            default:
                return often;
        }
    }

    /** A path that makes a place which an act on a place other than MOVE may have. */
    private int anyPath(int v) {
        int further = random.nextInt(3) * 8;
        if (isReference(v)) {
            return BEHIND + further;
        }
        int first = random.nextInt(3);
        return first == 0 ? 0 : first + further;
    }

    private void make() {
        often = random.nextInt(VARIABLES);
        for (int v = 0; v < VARIABLES; v++) {
            due("variable", x.variable(SORTS[v], LEAVES[v]), v);
            if (gentle || random.nextInt(8) != 0) {
                due("begins", x.begins(v, true), 1);
                told.append("begins(").append(v).append(", true)\n");
                begun |= leavesOf(v, 0);
            }
        }
        for (int i = 0; i < SIZE; i++) {
            makeAct(i);
            for (int n = random.nextInt(3); n >= 0; n--) {
                int j = random.nextInt(4) == 0 ? random.nextInt(SIZE) : (i + 1) % SIZE;
                next[i][j] = true;
                due("next", x.next(POINTS[i], POINTS[j], true), 1);
                told.append("next(").append(POINTS[i]).append(", ").append(POINTS[j]).append(", true)\n");
            }
        }
    }

    private void makeAct(int i) {
        int[] among = gentle ? GENTLE_KINDS : KINDS;
        int kind = among[random.nextInt(among.length)];
        int v = kind == LEND && random.nextBoolean() ? often : anyVariable(i);
        int to = anyReference();
        int path = anyPath(v);
        if (kind == LET || kind == END || kind == COPY) {
            path = 0;
        }
        if (kind == MOVE) {
            v = random.nextInt(FIRST_REFERENCE);
            path = v == 1 ? random.nextInt(3) : 0;
        }
        if (makeOne(i, kind, v, path, to) == 1) {
            kinds[i] = kind;
            vars[i] = v;
            paths[i] = path;
            receivers[i] = kind == LEND || kind == COPY ? to : -1;
        } else {
            receivers[i] = -1;
        }
    }

    private int makeOne(int i, int kind, int v, int path, int to) {
        int answer;
        if (kind == LEND) {
            answer = x.lend(POINTS[i], to, v, path);
            due("lend", answer, isReference(v) && !isSole(v) && isSole(to) ? -1 : 1);
        } else if (kind == COPY) {
            answer = x.copy(POINTS[i], to, v);
            due("copy", answer, isReference(v) && SORTS[v] == SORTS[to] && v != to ? 1 : -1);
        } else {
            answer = x.act(POINTS[i], kind, v, path);
            boolean giving = kind == GIVE || kind == CHANGE;
            due("act", answer, giving && isReference(v) && !isSole(v) ? -1 : 1);
        }
        told.append("point ").append(POINTS[i]).append(": act ").append(kind).append(" of ").append(v).append(", ")
                .append(path).append(" to ").append(to).append(" = ").append(answer).append('\n');
        return answer;
    }

    // ---- what the acts do

    private static int leavesOf(int v, int path) {
        if (LEAVES[v] > 1) {
            return path == 0 ? 3 << FIRST_LEAF[v] : 1 << (FIRST_LEAF[v] + path % 8 - 1);
        }
        return 1 << FIRST_LEAF[v];
    }

    private boolean isWithin(int i) {
        return LEAVES[vars[i]] > 1 ? paths[i] >= 8 : paths[i] != 0;
    }

    private int wanted(int i) {
        int kind = kinds[i];
        boolean wants = kind == READ || kind == MOVE || kind == CHANGE || kind == LEND || kind == COPY
                || kind == GIVE && isWithin(i);
        return wants ? leavesOf(vars[i], paths[i]) : 0;
    }

    private int given(int i) {
        if (receivers[i] >= 0) {
            return leavesOf(receivers[i], 0);
        }
        return kinds[i] == GIVE && !isWithin(i) ? leavesOf(vars[i], paths[i]) : 0;
    }

    private int taken(int i) {
        boolean takes = kinds[i] == MOVE || kinds[i] == LET || kinds[i] == COPY && isSole(vars[i]);
        return takes ? leavesOf(vars[i], paths[i]) : 0;
    }

    private boolean makesLoan(int i) {
        return kinds[i] == LEND && (!isReference(vars[i]) || isSole(vars[i]));
    }

    private boolean uses(int i, int r) {
        boolean onPlace = kinds[i] == READ || kinds[i] == GIVE || kinds[i] == CHANGE || kinds[i] == LEND;
        return vars[i] == r && isReference(r) && (kinds[i] == COPY || onPlace && paths[i] % 8 == BEHIND);
    }

    private boolean givesAnew(int i, int r) {
        return receivers[i] == r || kinds[i] == LET && vars[i] == r && isReference(r);
    }

    // ---- the ways

    /** All that is so on one way: the leaves held, and for each reference the loans that it holds. */
    private static final class State {
        int held;
        final int[] holds = new int[VARIABLES];

        static State of(long key) {
            State s = new State();
            s.held = (int) (key & ((1 << LEAF_BITS) - 1));
            for (int v = FIRST_REFERENCE; v < VARIABLES; v++) {
                s.holds[v] = (int) (key >> (LEAF_BITS + SIZE * v)) & ((1 << SIZE) - 1);
            }
            return s;
        }

        long key() {
            long key = held;
            for (int v = FIRST_REFERENCE; v < VARIABLES; v++) {
                key |= (long) holds[v] << (LEAF_BITS + SIZE * v);
            }
            return key;
        }
    }

    private void follow() {
        State first = new State();
        first.held = begun;
        Set<String> met = new HashSet<>();
        ArrayDeque<long[]> open = new ArrayDeque<>();
        open.add(new long[] {0, first.key()});
        met.add("0 " + first.key());
        while (!open.isEmpty()) {
            long[] at = open.remove();
            int i = (int) at[0];
            State s = State.of(at[1]);
            note(i, s);
            go(i, s);
            for (int j = 0; j < SIZE; j++) {
                if (next[i][j] && met.add(j + " " + s.key())) {
                    open.add(new long[] {j, s.key()});
                }
            }
        }
    }

    private void note(int i, State s) {
        come[i] = true;
        heldOnSome[i] |= s.held;
        lackedOnSome[i] |= ~s.held;
        for (int v = FIRST_REFERENCE; v < VARIABLES; v++) {
            holdings[i][v] |= s.holds[v];
        }
    }

    private void go(int i, State s) {
        s.held = s.held & ~taken(i) | given(i);
        for (int r = FIRST_REFERENCE; r < VARIABLES; r++) {
            if (givesAnew(i, r)) {
                int gets = makesLoan(i) ? 1 << i : 0;
                if (receivers[i] == r && isReference(vars[i])) {
                    gets |= s.holds[vars[i]];
                }
                s.holds[r] = gets;
                goFromAll(s, r);
            }
        }
    }

    private void goFromAll(State s, int r) {
        for (int l = 0; l < SIZE; l++) {
            if (makesLoan(l) && vars[l] == r) {
                for (int v = FIRST_REFERENCE; v < VARIABLES; v++) {
                    s.holds[v] &= ~(1 << l);
                }
            }
        }
    }

    private boolean usedBehind(int i, int r) {
        boolean[] passed = new boolean[SIZE];
        ArrayDeque<Integer> open = new ArrayDeque<>();
        open.add(i);
        while (come[i] && !open.isEmpty()) {
            int at = open.remove();
            for (int j = 0; j < SIZE; j++) {
                if (next[at][j] && uses(j, r)) {
                    return true;
                }
                if (next[at][j] && !passed[j] && !givesAnew(j, r)) {
                    passed[j] = true;
                    open.add(j);
                }
            }
        }
        return false;
    }

    private boolean leadsWithoutGiving(int t, int i, int leaf) {
        boolean[] passed = new boolean[SIZE];
        ArrayDeque<Integer> open = new ArrayDeque<>();
        open.add(t);
        while (!open.isEmpty()) {
            int at = open.remove();
            for (int j = 0; j < SIZE; j++) {
                if (next[at][j] && j == i) {
                    return true;
                }
                if (next[at][j] && !passed[j] && (given(j) & leaf) == 0) {
                    passed[j] = true;
                    open.add(j);
                }
            }
        }
        return false;
    }

    private boolean inForce(int l, int i) {
        for (int r = FIRST_REFERENCE; r < VARIABLES; r++) {
            if ((holdings[i][r] >> l & 1) == 1 && !givesAnew(i, r) && usedBehind(i, r)) {
                return true;
            }
        }
        return false;
    }

    private boolean clashes(int l, int i) {
        if (!inForce(l, i) || vars[l] != vars[i] || kinds[i] == 0 || kinds[i] == LET) {
            return false;
        }
        if (kinds[i] == END && isReference(vars[i])) {
            return false;
        }
        String lent = digits(paths[l]);
        String acted = digits(paths[i]);
        boolean looks = kinds[i] == READ || kinds[i] == LEND && !isSole(receivers[i]) || kinds[i] == COPY && !isSole(vars[i]);
        return (lent.startsWith(acted) || acted.startsWith(lent)) && (isSole(receivers[l]) || !looks);
    }

    private static String digits(int path) {
        return path == 0 ? "" : path % 8 + digits(path / 8);
    }

    // ---- the answers

    private void askPoints() {
        for (int i = 0; i < SIZE; i++) {
            int p = POINTS[i];
            due("comes(" + p + ")", x.comes(p), come[i] ? 1 : 0);
            for (int v = 0; v < VARIABLES; v++) {
                for (int leaf = 0; leaf < LEAVES[v]; leaf++) {
                    int bit = 1 << (FIRST_LEAF[v] + leaf);
                    boolean some = (heldOnSome[i] & bit) != 0;
                    boolean all = (lackedOnSome[i] & bit) == 0;
                    int want = !come[i] ? -1 : all ? 1 : some ? 2 : 0;
                    due("held(" + p + ", " + v + ", " + leaf + ")", x.held(p, v, leaf), want);
                }
            }
            for (int r = FIRST_REFERENCE; r < VARIABLES; r++) {
                due("used(" + p + ", " + r + ")", x.used(p, r), usedBehind(i, r) ? 1 : 0);
                for (int l = 0; l < SIZE; l++) {
                    int want = !makesLoan(l) ? -1 : holdings[i][r] >> l & 1;
                    due("holds(" + p + ", " + r + ", " + POINTS[l] + ")", x.holds(p, r, POINTS[l]), want);
                }
            }
            for (int l = 0; l < SIZE; l++) {
                int want = !makesLoan(l) ? -1 : inForce(l, i) ? 1 : 0;
                due("force(" + POINTS[l] + ", " + p + ")", x.force(POINTS[l], p), want);
            }
        }
    }

    /** Which of them is the least point: indices are not in the order of the points. */
    private static int lesser(int p, int q) {
        return p < 0 ? q : Math.min(p, q);
    }

    private void askFaults() {
        int unheld = -1;
        int taker = -1;
        int clashing = -1;
        int lender = -1;
        int[] counts = new int[6];
        for (int i = 0; i < SIZE; i++) {
            int missing = come[i] ? wanted(i) & lackedOnSome[i] : 0;
            counts[2] += come[i] ? 1 : 0;
            counts[4] += missing != 0 ? 1 : 0;
            if (missing != 0 && lesser(unheld, POINTS[i]) == POINTS[i]) {
                unheld = POINTS[i];
                taker = leastTaker(i, Integer.lowestOneBit(missing));
            }
            int least = -1;
            for (int l = 0; l < SIZE; l++) {
                counts[1] += i == 0 && makesLoan(l) ? 1 : 0;
                counts[3] += makesLoan(l) && inForce(l, i) ? 1 : 0;
                least = makesLoan(l) && clashes(l, i) ? lesser(least, POINTS[l]) : least;
            }
            counts[5] += least >= 0 ? 1 : 0;
            if (least >= 0 && lesser(clashing, POINTS[i]) == POINTS[i]) {
                clashing = POINTS[i];
                lender = least;
            }
        }
        counts[0] = VARIABLES;
        int fault = unheld >= 0 ? 3 : clashing >= 0 ? 4 : 0;
        seen[fault]++;
        due("judge()", x.judge(), fault);
        due("fault(1)", x.fault(1), unheld >= 0 ? unheld : clashing);
        due("fault(2)", x.fault(2), unheld >= 0 ? taker : lender);
        for (int what = 0; what <= 5; what++) {
            due("count(" + what + ")", x.count(what), counts[what]);
        }
    }

    private int leastTaker(int i, int leaf) {
        int least = -1;
        for (int t = 0; t < SIZE; t++) {
            if (come[t] && (taken(t) & leaf) != 0 && leadsWithoutGiving(t, i, leaf)) {
                least = lesser(least, POINTS[t]);
            }
        }
        return least;
    }

    public static void main(String[] args) {
        for (int seed = 0; seed < RUNS; seed++) {
            EachWayTest test = new EachWayTest(seed);
            test.make();
            test.follow();
            test.askPoints();
            test.askFaults();
        }
        if (seen[0] < RUNS / 20 || seen[3] < RUNS / 20 || seen[4] < RUNS / 20) {
            wrong++;
            System.out.println("the programs are too much alike: " + seen[0] + ", " + seen[3] + ", " + seen[4]);
        }
        System.out.println(wrong == 0 ? "all ways are as due" : wrong + " answers are not as due");
        if (wrong != 0) {
            System.exit(1);
        }
    }
}
