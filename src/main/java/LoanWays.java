import java.util.Arrays;

/**
 * Points with acts, and ways between them, on which variables are given, moved, lent and used: what
 * is held at each point, what is lent there, and the least point at which something goes wrong.
 */
public final class LoanWays {
    public static final int NONE = -1;

    private static final int POINTS = 150;
    private static final int MOST_NEXT = 4;
    private static final int MOST_LENDS = 60;
    private static final int VARIABLES = 16;
    private static final int MOST_LEAVES = 4;

    private static final int PLAIN = 0;
    private static final int SHARED = 1;
    private static final int SOLE = 2;

    private static final int NOTHING = 0;
    private static final int READ = 1;
    private static final int MOVE = 2;
    private static final int GIVE = 3;
    private static final int CHANGE = 4;
    private static final int LET = 5;
    private static final int END = 6;
    private static final int LEND = 7;
    private static final int COPY = 8;

    private static final int DIGITS = 4;
    private static final int DIGIT_BITS = 3;
    private static final int DIGIT_MASK = 7;
    private static final int PATHS = 4096;
    private static final int BEHIND = 5;
    private static final int ELEMENT = 6;

    /** Each pass but the last sets a bit of a point and a variable for a loan: there are no more. */
    private static final int MOST_PASSES = POINTS * VARIABLES * MOST_LENDS + 1;

    private static final int UNHELD = 3;
    private static final int CLASH = 4;

    private final Variables variables;
    private final Acts acts;
    private final Ways ways;
    private final Leaves leaves;
    private final Loans loans;
    private boolean waysKnown;
    private boolean leavesKnown;
    private boolean loansKnown;

    public LoanWays() {
        variables = new Variables();
        acts = new Acts(variables);
        ways = new Ways();
        leaves = new Leaves(acts, ways);
        loans = new Loans(variables, acts, ways);
    }

    public int variable(int sort, int leaves) {
        if (!isSort(sort, leaves) || variables.isFull()) {
            return NONE;
        }
        forget();
        return variables.add(sort, leaves);
    }

    public int begins(int v, boolean is) {
        if (!variables.has(v)) {
            return NONE;
        }
        variables.begin(v, is);
        forget();
        return 1;
    }

    public int act(int p, int act, int v, int path) {
        if (!isPoint(p) || act < NOTHING || act > END) {
            return NONE;
        }
        if (act == NOTHING) {
            return put(p, NOTHING, 0, 0, NONE);
        }
        if (act == LET || act == END) {
            return variables.has(v) ? put(p, act, v, 0, NONE) : NONE;
        }
        return variables.mayAct(act, v, path) ? put(p, act, v, path, NONE) : NONE;
    }

    public int lend(int p, int to, int v, int path) {
        if (!isPoint(p) || !variables.mayLend(to, v, path) || acts.lendsBeside(p) >= MOST_LENDS) {
            return NONE;
        }
        return put(p, LEND, v, path, to);
    }

    public int copy(int p, int to, int from) {
        if (!isPoint(p) || !variables.mayCopy(to, from)) {
            return NONE;
        }
        return put(p, COPY, from, 0, to);
    }

    public int next(int p, int q, boolean is) {
        if (!isPoint(p) || !isPoint(q)) {
            return NONE;
        }
        if (is && !ways.add(p, q)) {
            return NONE;
        }
        if (!is) {
            ways.remove(p, q);
        }
        forget();
        return 1;
    }

    public int judge() {
        knowLeaves();
        if (leastUnheld() != NONE) {
            return UNHELD;
        }
        knowLoans();
        return leastClashing() != NONE ? CLASH : 0;
    }

    public int fault(int what) {
        if (what != 1 && what != 2) {
            return NONE;
        }
        knowLeaves();
        int unheld = leastUnheld();
        if (unheld != NONE) {
            return what == 1 ? unheld : leaves.leastTaker(unheld);
        }
        knowLoans();
        int clashing = leastClashing();
        if (clashing == NONE) {
            return NONE;
        }
        return what == 1 ? clashing : loans.leastClash(clashing);
    }

    public int comes(int p) {
        if (!isPoint(p)) {
            return NONE;
        }
        knowWays();
        return answer(ways.comeTo(p));
    }

    public int held(int p, int v, int leaf) {
        if (!isPoint(p) || !variables.hasLeaf(v, leaf)) {
            return NONE;
        }
        knowLeaves();
        return ways.comeTo(p) ? leaves.state(p, leafBit(v, leaf)) : NONE;
    }

    public int holds(int p, int v, int l) {
        if (!isPoint(p) || !variables.isReference(v) || !isLoan(l)) {
            return NONE;
        }
        knowLoans();
        return answer(loans.isHeldBy(p, v, l));
    }

    public int used(int p, int v) {
        if (!isPoint(p) || !variables.isReference(v)) {
            return NONE;
        }
        knowLoans();
        return answer(loans.isUsedBehind(p, v));
    }

    public int force(int l, int p) {
        if (!isPoint(p) || !isLoan(l)) {
            return NONE;
        }
        knowLoans();
        return answer(loans.isInForce(l, p));
    }

    public int count(int what) {
        switch (what) {
            case 0:
                return variables.size();
            case 1:
                knowLoans();
                return loans.size();
            case 2:
                knowWays();
                return ways.size();
            case 3:
                knowLoans();
                return countInForce();
            case 4:
                knowLeaves();
                return countUnheld();
            case 5:
                knowLoans();
                return countClashing();
            default:
                return NONE;
        }
    }

    private static boolean isPoint(int p) {
        return p >= 0 && p < POINTS;
    }

    private static boolean isSort(int sort, int leaves) {
        if (sort == PLAIN) {
            return leaves >= 1 && leaves <= MOST_LEAVES;
        }
        return (sort == SHARED || sort == SOLE) && leaves == 1;
    }

    private static int answer(boolean is) {
        return is ? 1 : 0;
    }

    private static long leafBit(int v, int leaf) {
        return 1L << (v * MOST_LEAVES + leaf);
    }

    private boolean isLoan(int l) {
        return isPoint(l) && acts.makesLoan(l);
    }

    private int put(int p, int kind, int v, int path, int to) {
        acts.put(p, kind, v, path, to);
        forget();
        return 1;
    }

    private void forget() {
        waysKnown = false;
        leavesKnown = false;
        loansKnown = false;
    }

    private void knowWays() {
        if (!waysKnown) {
            ways.walk();
            waysKnown = true;
        }
    }

    private void knowLeaves() {
        knowWays();
        if (!leavesKnown) {
            leaves.flow(variables.begun());
            leavesKnown = true;
        }
    }

    private void knowLoans() {
        knowWays();
        if (!loansKnown) {
            loans.number();
            loans.flowHoldings();
            loans.flowUses();
            loansKnown = true;
        }
    }

    private int leastUnheld() {
        for (int p = 0; p < POINTS; p++) {
            if (leaves.missing(p) != 0L) {
                return p;
            }
        }
        return NONE;
    }

    private int leastClashing() {
        for (int p = 0; p < POINTS; p++) {
            if (loans.leastClash(p) != NONE) {
                return p;
            }
        }
        return NONE;
    }

    private int countInForce() {
        int pairs = 0;
        for (int p = 0; p < POINTS; p++) {
            pairs += Long.bitCount(loans.inForce(p));
        }
        return pairs;
    }

    private int countUnheld() {
        int points = 0;
        for (int p = 0; p < POINTS; p++) {
            points += answer(leaves.missing(p) != 0L);
        }
        return points;
    }

    private int countClashing() {
        int points = 0;
        for (int p = 0; p < POINTS; p++) {
            points += answer(loans.leastClash(p) != NONE);
        }
        return points;
    }

    /** Numbers whose digits in base 8, the lowest first, lead from a variable to a part of it. */
    private static final class Paths {
        private Paths() {
        }

        static boolean isPath(int path) {
            if (path < 0 || path >= PATHS) {
                return false;
            }
            int rest = path;
            for (int i = 0; i < DIGITS && rest != 0; i++) {
                int digit = firstDigit(rest);
                if (digit == 0 || digit > ELEMENT) {
                    return false;
                }
                rest = behindFirst(rest);
            }
            return true;
        }

        static int firstDigit(int path) {
            return path & DIGIT_MASK;
        }

        static int behindFirst(int path) {
            return path >> DIGIT_BITS;
        }

        static boolean oneBeginsTheOther(int path, int other) {
            int a = path;
            int b = other;
            for (int i = 0; i < DIGITS && a != 0 && b != 0; i++) {
                if (firstDigit(a) != firstDigit(b)) {
                    return false;
                }
                a = behindFirst(a);
                b = behindFirst(b);
            }
            return true;
        }
    }

    /** The variables, which of them are given at the beginning, and what acts may be done on them. */
    private static final class Variables {
        private final int[] sorts = new int[VARIABLES];
        private final int[] leafCounts = new int[VARIABLES];
        private int made;
        private long begun;

        boolean isFull() {
            return made >= VARIABLES;
        }

        int add(int sort, int leafCount) {
            sorts[made] = sort;
            leafCounts[made] = leafCount;
            made++;
            return made - 1;
        }

        int size() {
            return made;
        }

        boolean has(int v) {
            return v >= 0 && v < made;
        }

        boolean hasLeaf(int v, int leaf) {
            return has(v) && leaf >= 0 && leaf < leafCounts[v];
        }

        boolean isReference(int v) {
            return has(v) && sorts[v] != PLAIN;
        }

        boolean isShared(int v) {
            return has(v) && sorts[v] == SHARED;
        }

        boolean isSole(int v) {
            return has(v) && sorts[v] == SOLE;
        }

        private boolean hasParts(int v) {
            return has(v) && leafCounts[v] > 1;
        }

        void begin(int v, boolean is) {
            long all = leavesOf(v, 0);
            begun = is ? begun | all : begun & ~all;
        }

        long begun() {
            return begun;
        }

        boolean isPlace(int v, int path) {
            if (!has(v) || !Paths.isPath(path)) {
                return false;
            }
            if (path == 0) {
                return true;
            }
            if (isReference(v)) {
                return Paths.firstDigit(path) == BEHIND;
            }
            return !hasParts(v) || Paths.firstDigit(path) <= leafCounts[v];
        }

        boolean goesThrough(int v, int path) {
            return isReference(v) && Paths.firstDigit(path) == BEHIND;
        }

        boolean isWithin(int v, int path) {
            return hasParts(v) ? Paths.behindFirst(path) != 0 : path != 0;
        }

        long leavesOf(int v, int path) {
            if (!has(v)) {
                return 0L;
            }
            if (hasParts(v) && path != 0) {
                return leafBit(v, Paths.firstDigit(path) - 1);
            }
            long all = (1L << leafCounts[v]) - 1L;
            return all << (v * MOST_LEAVES);
        }

        boolean mayAct(int act, int v, int path) {
            if (!isPlace(v, path)) {
                return false;
            }
            if (act == MOVE) {
                return !isReference(v) && !isWithin(v, path);
            }
            if (!isReference(v)) {
                return true;
            }
            return path != 0 && (act == READ || isSole(v));
        }

        boolean mayLend(int to, int v, int path) {
            if (!isReference(to) || !isPlace(v, path)) {
                return false;
            }
            if (!isReference(v)) {
                return true;
            }
            return path != 0 && (isShared(to) || isSole(v));
        }

        boolean mayCopy(int to, int from) {
            return to != from && isReference(to) && isReference(from) && sorts[to] == sorts[from];
        }
    }

    /** The act of each point, and what it does to leaves and references. */
    private static final class Acts {
        private final Variables variables;
        private final int[] kinds = new int[POINTS];
        private final int[] places = new int[POINTS];
        private final int[] paths = new int[POINTS];
        private final int[] receivers = new int[POINTS];
        private final long[] wanted = new long[POINTS];
        private final long[] given = new long[POINTS];
        private final long[] taken = new long[POINTS];
        private final int[] usedReferences = new int[POINTS];
        private final int[] renewedReferences = new int[POINTS];
        private int lends;

        Acts(Variables variables) {
            this.variables = variables;
            Arrays.fill(usedReferences, NONE);
            Arrays.fill(renewedReferences, NONE);
        }

        void put(int p, int kind, int v, int path, int to) {
            lends = lendsBeside(p) + answer(kind == LEND);
            kinds[p] = kind;
            places[p] = v;
            paths[p] = path;
            receivers[p] = to;
            wanted[p] = leavesWanted(kind, v, path);
            given[p] = leavesGiven(kind, v, path, to);
            taken[p] = leavesTaken(kind, v, path);
            usedReferences[p] = referenceUsed(kind, v, path);
            renewedReferences[p] = referenceRenewed(kind, v, to);
        }

        int lendsBeside(int p) {
            return lends - answer(kinds[p] == LEND);
        }

        private long leavesWanted(int kind, int v, int path) {
            boolean wants = kind == READ || kind == MOVE || kind == CHANGE || kind == LEND
                    || kind == COPY || (kind == GIVE && variables.isWithin(v, path));
            return wants ? variables.leavesOf(v, path) : 0L;
        }

        private long leavesGiven(int kind, int v, int path, int to) {
            if (kind == LEND || kind == COPY) {
                return variables.leavesOf(to, 0);
            }
            boolean gives = kind == GIVE && !variables.isWithin(v, path);
            return gives ? variables.leavesOf(v, path) : 0L;
        }

        private long leavesTaken(int kind, int v, int path) {
            boolean takes = kind == MOVE || kind == LET || (kind == COPY && variables.isSole(v));
            return takes ? variables.leavesOf(v, path) : 0L;
        }

        private int referenceUsed(int kind, int v, int path) {
            boolean through = isOnPlace(kind) && variables.goesThrough(v, path);
            return through || kind == COPY ? v : NONE;
        }

        private int referenceRenewed(int kind, int v, int to) {
            if (kind == LET) {
                return variables.isReference(v) ? v : NONE;
            }
            return kind == LEND || kind == COPY ? to : NONE;
        }

        private static boolean isOnPlace(int kind) {
            return kind == READ || kind == MOVE || kind == GIVE || kind == CHANGE || kind == LEND;
        }

        long wantedAt(int p) {
            return wanted[p];
        }

        long givenAt(int p) {
            return given[p];
        }

        long takenAt(int p) {
            return taken[p];
        }

        int variableAt(int p) {
            return places[p];
        }

        int pathAt(int p) {
            return paths[p];
        }

        boolean makesLoan(int p) {
            return kinds[p] == LEND && !variables.isShared(places[p]);
        }

        boolean makesSoleLoan(int p) {
            return makesLoan(p) && variables.isSole(receivers[p]);
        }

        int usedAt(int p) {
            return usedReferences[p];
        }

        int renewedAt(int p) {
            return renewedReferences[p];
        }

        /** LET touches no place, and the end of a reference leaves what is behind it as it is. */
        boolean canClash(int p) {
            if (kinds[p] == END) {
                return !variables.isReference(places[p]);
            }
            return isOnPlace(kinds[p]) || kinds[p] == COPY;
        }

        boolean onlyLooks(int p) {
            int kind = kinds[p];
            return kind == READ || (kind == LEND && variables.isShared(receivers[p]))
                    || (kind == COPY && variables.isShared(places[p]));
        }
    }

    /** Which points are next to which, and those that a way from point 0 comes to. */
    private static final class Ways {
        private final int[] nexts = new int[POINTS * MOST_NEXT];
        private final int[] nextCounts = new int[POINTS];
        private final int[] tried = new int[POINTS];
        private final int[] open = new int[POINTS];
        private final int[] order = new int[POINTS];
        private int reached;

        boolean add(int p, int q) {
            if (indexOf(p, q) != NONE) {
                return true;
            }
            if (nextCounts[p] >= MOST_NEXT) {
                return false;
            }
            nexts[p * MOST_NEXT + nextCounts[p]] = q;
            nextCounts[p]++;
            return true;
        }

        void remove(int p, int q) {
            int i = indexOf(p, q);
            if (i != NONE) {
                nextCounts[p]--;
                nexts[p * MOST_NEXT + i] = nexts[p * MOST_NEXT + nextCounts[p]];
            }
        }

        private int indexOf(int p, int q) {
            for (int i = 0; i < nextCounts[p]; i++) {
                if (nextOf(p, i) == q) {
                    return i;
                }
            }
            return NONE;
        }

        int nextCount(int p) {
            return nextCounts[p];
        }

        int nextOf(int p, int i) {
            return nexts[p * MOST_NEXT + i];
        }

        /** Orders the points by when the walk leaves them, so that the flows need few passes. */
        void walk() {
            Arrays.fill(tried, NONE);
            reached = 0;
            open[0] = 0;
            tried[0] = 0;
            int depth = 1;
            for (int step = 0; step < POINTS * (MOST_NEXT + 1) && depth > 0; step++) {
                int p = open[depth - 1];
                if (tried[p] >= nextCounts[p]) {
                    order[reached] = p;
                    reached++;
                    depth--;
                    continue;
                }
                int q = nextOf(p, tried[p]);
                tried[p]++;
                if (tried[q] == NONE) {
                    tried[q] = 0;
                    open[depth] = q;
                    depth++;
                }
            }
        }

        boolean comeTo(int p) {
            return tried[p] != NONE;
        }

        int size() {
            return reached;
        }

        /** The reached points, mostly those behind others first. */
        int fromTheEnd(int i) {
            return order[i];
        }

        /** The reached points, mostly those ahead of others first. */
        int fromTheBeginning(int i) {
            return order[reached - 1 - i];
        }
    }

    /** On which ways to each point each leaf is held. */
    private static final class Leaves {
        private final Acts acts;
        private final Ways ways;
        private final long[] onAll = new long[POINTS];
        private final long[] onSome = new long[POINTS];
        private final int[] leading = new int[POINTS];

        Leaves(Acts acts, Ways ways) {
            this.acts = acts;
            this.ways = ways;
        }

        void flow(long begun) {
            Arrays.fill(onAll, -1L);
            Arrays.fill(onSome, 0L);
            onAll[0] = begun;
            onSome[0] = begun;
            boolean changed = true;
            for (int pass = 0; pass < MOST_PASSES && changed; pass++) {
                changed = false;
                for (int i = 0; i < ways.size(); i++) {
                    if (handOn(ways.fromTheBeginning(i))) {
                        changed = true;
                    }
                }
            }
        }

        private boolean handOn(int p) {
            long all = (onAll[p] & ~acts.takenAt(p)) | acts.givenAt(p);
            long some = (onSome[p] & ~acts.takenAt(p)) | acts.givenAt(p);
            boolean changed = false;
            for (int i = 0; i < ways.nextCount(p); i++) {
                int q = ways.nextOf(p, i);
                if ((onAll[q] & ~all) != 0L || (some & ~onSome[q]) != 0L) {
                    onAll[q] &= all;
                    onSome[q] |= some;
                    changed = true;
                }
            }
            return changed;
        }

        int state(int p, long leaf) {
            if ((onAll[p] & leaf) != 0L) {
                return 1;
            }
            return (onSome[p] & leaf) != 0L ? 2 : 0;
        }

        long missing(int p) {
            return ways.comeTo(p) ? acts.wantedAt(p) & ~onAll[p] : 0L;
        }

        int leastTaker(int p) {
            long missing = missing(p);
            long leaf = missing & -missing;
            findLeading(p, leaf);
            for (int q = 0; q < POINTS; q++) {
                if (ways.comeTo(q) && (acts.takenAt(q) & leaf) != 0L && leadsOn(q)) {
                    return q;
                }
            }
            return NONE;
        }

        /** Marks the points from which, their own act too, a way without a giving leads to p. */
        private void findLeading(int p, long leaf) {
            Arrays.fill(leading, 0);
            leading[p] = 1;
            boolean changed = true;
            for (int pass = 0; pass < POINTS && changed; pass++) {
                changed = false;
                for (int i = 0; i < ways.size(); i++) {
                    int q = ways.fromTheEnd(i);
                    if (leading[q] == 0 && (acts.givenAt(q) & leaf) == 0L && leadsOn(q)) {
                        leading[q] = 1;
                        changed = true;
                    }
                }
            }
        }

        private boolean leadsOn(int p) {
            for (int i = 0; i < ways.nextCount(p); i++) {
                if (leading[ways.nextOf(p, i)] != 0) {
                    return true;
                }
            }
            return false;
        }
    }

    /** The loans as bits, the least point's first; who holds them where, and who is used later. */
    private static final class Loans {
        private final Variables variables;
        private final Acts acts;
        private final Ways ways;
        private final int[] makers = new int[MOST_LENDS];
        private final long[] bits = new long[POINTS];
        private final long[] loansOf = new long[VARIABLES];
        private final long[] holdings = new long[POINTS * VARIABLES];
        private final long[] handed = new long[VARIABLES];
        private final int[] usedLater = new int[POINTS];
        private long soleLoans;
        private int made;

        Loans(Variables variables, Acts acts, Ways ways) {
            this.variables = variables;
            this.acts = acts;
            this.ways = ways;
        }

        void number() {
            Arrays.fill(bits, 0L);
            Arrays.fill(loansOf, 0L);
            soleLoans = 0L;
            made = 0;
            for (int p = 0; p < POINTS && made < MOST_LENDS; p++) {
                if (acts.makesLoan(p)) {
                    bits[p] = 1L << made;
                    makers[made] = p;
                    made++;
                    loansOf[acts.variableAt(p)] |= bits[p];
                    soleLoans |= acts.makesSoleLoan(p) ? bits[p] : 0L;
                }
            }
        }

        void flowHoldings() {
            Arrays.fill(holdings, 0L);
            boolean changed = made > 0;
            for (int pass = 0; pass < MOST_PASSES && changed; pass++) {
                changed = false;
                for (int i = 0; i < ways.size(); i++) {
                    if (handOn(ways.fromTheBeginning(i))) {
                        changed = true;
                    }
                }
            }
        }

        private boolean handOn(int p) {
            System.arraycopy(holdings, p * VARIABLES, handed, 0, VARIABLES);
            renew(p);
            boolean changed = false;
            for (int i = 0; i < ways.nextCount(p); i++) {
                if (takeOver(ways.nextOf(p, i))) {
                    changed = true;
                }
            }
            return changed;
        }

        /** What is behind a new reference is another place: loans of the old one end, also its own. */
        private void renew(int p) {
            int r = acts.renewedAt(p);
            if (r == NONE) {
                return;
            }
            int from = acts.usedAt(p);
            handed[r] = bits[p] | (from == NONE ? 0L : handed[from]);
            for (int v = 0; v < variables.size(); v++) {
                handed[v] &= ~loansOf[r];
            }
        }

        private boolean takeOver(int q) {
            boolean changed = false;
            for (int v = 0; v < variables.size(); v++) {
                int at = q * VARIABLES + v;
                if ((handed[v] & ~holdings[at]) != 0L) {
                    holdings[at] |= handed[v];
                    changed = true;
                }
            }
            return changed;
        }

        void flowUses() {
            Arrays.fill(usedLater, 0);
            boolean changed = true;
            for (int pass = 0; pass < MOST_PASSES && changed; pass++) {
                changed = false;
                for (int i = 0; i < ways.size(); i++) {
                    int p = ways.fromTheEnd(i);
                    int uses = usesBehind(p);
                    if (uses != usedLater[p]) {
                        usedLater[p] = uses;
                        changed = true;
                    }
                }
            }
        }

        private int usesBehind(int p) {
            int uses = 0;
            for (int i = 0; i < ways.nextCount(p); i++) {
                int q = ways.nextOf(p, i);
                uses |= (usedLater[q] & ~variableBit(acts.renewedAt(q))) | variableBit(acts.usedAt(q));
            }
            return uses;
        }

        private static int variableBit(int v) {
            return v == NONE ? 0 : 1 << v;
        }

        int size() {
            return made;
        }

        boolean isHeldBy(int p, int v, int l) {
            return (holdings[p * VARIABLES + v] & bits[l]) != 0L;
        }

        boolean isUsedBehind(int p, int v) {
            return (usedLater[p] & variableBit(v)) != 0;
        }

        boolean isInForce(int l, int p) {
            return (inForce(p) & bits[l]) != 0L;
        }

        long inForce(int p) {
            int counting = usedLater[p] & ~variableBit(acts.renewedAt(p));
            long found = 0L;
            for (int v = 0; v < variables.size(); v++) {
                if ((counting & variableBit(v)) != 0) {
                    found |= holdings[p * VARIABLES + v];
                }
            }
            return found;
        }

        /** The least point whose loan clashes with the act of p. */
        int leastClash(int p) {
            if (!acts.canClash(p)) {
                return NONE;
            }
            long among = inForce(p) & loansOf[acts.variableAt(p)];
            if (acts.onlyLooks(p)) {
                among &= soleLoans;
            }
            for (int i = 0; i < made && among != 0L; i++) {
                int path = acts.pathAt(makers[i]);
                if ((among >> i & 1L) != 0L && Paths.oneBeginsTheOther(path, acts.pathAt(p))) {
                    return makers[i];
                }
            }
            return NONE;
        }
    }
}
