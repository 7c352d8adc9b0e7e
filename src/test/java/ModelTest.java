import java.util.ArrayDeque;
import java.util.ArrayList;
import java.util.HashSet;
import java.util.List;
import java.util.Random;
import java.util.Set;
import java.util.TreeSet;

/**
 * Runs of calls, each answer against a slow model that follows single facts along the ways instead
 * of sets over all points. The runs are the same each time.
 */
public final class ModelTest {
    private static final int CALLS = 512;

    private static final class Act {
        final int kind;
        final int v;
        final String path;
        final int to;

        Act(int kind, int v, String path, int to) {
            this.kind = kind;
            this.v = v;
            this.path = path;
            this.to = to;
        }
    }

    private static final int LEND = 7;
    private static final int COPY = 8;

    private static final class Model {
        final List<int[]> vars = new ArrayList<>();
        final Set<Integer> begun = new HashSet<>();
        final Act[] acts = new Act[150];
        final List<TreeSet<Integer>> nexts = new ArrayList<>();

        Model() {
            for (int p = 0; p < 150; p++) {
                acts[p] = new Act(0, -1, "", -1);
                nexts.add(new TreeSet<>());
            }
        }

        static String text(int path) {
            if (path < 0) {
                return null;
            }
            String t = path == 0 ? "" : new StringBuilder(Integer.toString(path, 8)).reverse().toString();
            return t.matches("[1-6]{0,4}") ? t : null;
        }

        boolean point(int p) {
            return p >= 0 && p <= 149;
        }

        boolean var(int v) {
            return v >= 0 && v < vars.size();
        }

        boolean ref(int v) {
            return var(v) && vars.get(v)[0] > 0;
        }

        boolean sort(int v, int sort) {
            return var(v) && vars.get(v)[0] == sort;
        }

        boolean place(int v, String path) {
            if (!var(v) || path == null) {
                return false;
            }
            int n = vars.get(v)[1];
            if (path.isEmpty()) {
                return true;
            }
            return ref(v) ? path.startsWith("5") : n == 1 || path.charAt(0) - '0' <= n;
        }

        List<Integer> leaves(int v, String path) {
            List<Integer> found = new ArrayList<>();
            for (int i = 0; i < vars.get(v)[1]; i++) {
                if (vars.get(v)[1] == 1 || path.isEmpty() || path.charAt(0) - '1' == i) {
                    found.add(v * 10 + i);
                }
            }
            return found;
        }

        boolean within(int v, String path) {
            return path.length() > (vars.get(v)[1] > 1 ? 1 : 0);
        }

        int variable(int sort, int n) {
            boolean good = sort == 0 ? n >= 1 && n <= 4 : (sort == 1 || sort == 2) && n == 1;
            if (!good || vars.size() == 16) {
                return -1;
            }
            vars.add(new int[] {sort, n});
            return vars.size() - 1;
        }

        int begins(int v, boolean is) {
            if (!var(v)) {
                return -1;
            }
            if (is) {
                begun.addAll(leaves(v, ""));
            } else {
                begun.removeAll(leaves(v, ""));
            }
            return 1;
        }

        int act(int p, int kind, int v, int number) {
            if (!point(p) || kind < 0 || kind > 6 || (kind > 0 && !var(v))) {
                return -1;
            }
            if (kind == 0 || kind > 4) {
                acts[p] = new Act(kind, kind == 0 ? -1 : v, "", -1);
                return 1;
            }
            String path = text(number);
            if (!place(v, path) || (ref(v) && path.isEmpty())) {
                return -1;
            }
            if (kind == 2 && (ref(v) || within(v, path))) {
                return -1;
            }
            if (kind > 2 && sort(v, 1)) {
                return -1;
            }
            acts[p] = new Act(kind, v, path, -1);
            return 1;
        }

        int lend(int p, int to, int v, int number) {
            String path = text(number);
            if (!point(p) || !ref(to) || !place(v, path) || (ref(v) && path.isEmpty())) {
                return -1;
            }
            if (sort(to, 2) && sort(v, 1)) {
                return -1;
            }
            int others = 0;
            for (int q = 0; q < 150; q++) {
                others += q != p && acts[q].kind == LEND ? 1 : 0;
            }
            if (others >= 60) {
                return -1;
            }
            acts[p] = new Act(LEND, v, path, to);
            return 1;
        }

        int copy(int p, int to, int from) {
            if (!point(p) || !ref(to) || !ref(from) || to == from || !sort(to, vars.get(from)[0])) {
                return -1;
            }
            acts[p] = new Act(COPY, from, "", to);
            return 1;
        }

        int next(int p, int q, boolean is) {
            if (!point(p) || !point(q)) {
                return -1;
            }
            if (!is) {
                nexts.get(p).remove(q);
                return 1;
            }
            if (!nexts.get(p).contains(q) && nexts.get(p).size() == 4) {
                return -1;
            }
            nexts.get(p).add(q);
            return 1;
        }

        List<Integer> wants(int p) {
            Act a = acts[p];
            boolean does = a.kind == 1 || a.kind == 2 || a.kind == 4 || a.kind == LEND || a.kind == COPY
                    || (a.kind == 3 && within(a.v, a.path));
            return does ? leaves(a.v, a.path) : List.of();
        }

        boolean gives(int p, int leaf) {
            Act a = acts[p];
            if (a.kind == LEND || a.kind == COPY) {
                return leaf == a.to * 10;
            }
            return a.kind == 3 && !within(a.v, a.path) && leaves(a.v, a.path).contains(leaf);
        }

        boolean takes(int p, int leaf) {
            Act a = acts[p];
            boolean does = a.kind == 2 || a.kind == 5 || (a.kind == COPY && sort(a.v, 2));
            return does && leaves(a.v, a.path).contains(leaf);
        }

        boolean uses(int p, int r) {
            Act a = acts[p];
            return a.v == r && ref(r) && (a.kind == COPY || a.path.startsWith("5"));
        }

        boolean renews(int p, int r) {
            Act a = acts[p];
            return a.to == r || (a.kind == 5 && a.v == r);
        }

        boolean loan(int p) {
            return point(p) && acts[p].kind == LEND && !sort(acts[p].v, 1);
        }

        boolean reached(int p) {
            return reachedFrom(0, p);
        }

        boolean reachedFrom(int from, int p) {
            Set<Integer> seen = new HashSet<>(List.of(from));
            ArrayDeque<Integer> open = new ArrayDeque<>(seen);
            while (!open.isEmpty()) {
                for (int q : nexts.get(open.remove())) {
                    if (seen.add(q)) {
                        open.add(q);
                    }
                }
            }
            return seen.contains(p);
        }

        int comes(int p) {
            return !point(p) ? -1 : reached(p) ? 1 : 0;
        }

        int state(int p, int leaf) {
            Set<Integer> seen = new HashSet<>();
            ArrayDeque<Integer> open = new ArrayDeque<>();
            int start = begun.contains(leaf) ? 1 : 0;
            seen.add(start);
            open.add(start);
            while (!open.isEmpty()) {
                int at = open.remove();
                int q = at / 2;
                int is = gives(q, leaf) ? 1 : takes(q, leaf) ? 0 : at % 2;
                for (int n : nexts.get(q)) {
                    if (seen.add(n * 2 + is)) {
                        open.add(n * 2 + is);
                    }
                }
            }
            boolean yes = seen.contains(p * 2 + 1);
            boolean no = seen.contains(p * 2);
            return yes && no ? 2 : yes ? 1 : no ? 0 : -1;
        }

        int held(int p, int v, int leaf) {
            if (!point(p) || !var(v) || leaf < 0 || leaf >= vars.get(v)[1]) {
                return -1;
            }
            return state(p, v * 10 + leaf);
        }

        int lacks(int p) {
            if (!reached(p)) {
                return -1;
            }
            for (int leaf : wants(p)) {
                if (state(p, leaf) != 1) {
                    return leaf;
                }
            }
            return -1;
        }

        /** Follows one loan from the point that makes it, as pairs of a point and a holder there. */
        Set<Integer> holders(int l) {
            Set<Integer> seen = new HashSet<>();
            ArrayDeque<Integer> open = new ArrayDeque<>();
            if (reached(l) && acts[l].v != acts[l].to) {
                pass(l, acts[l].to, seen, open);
            }
            while (!open.isEmpty()) {
                int at = open.remove();
                int p = at / 100;
                int r = at % 100;
                Act a = acts[p];
                if (ref(acts[l].v) && renews(p, acts[l].v)) {
                    continue;
                }
                if (!renews(p, r)) {
                    pass(p, r, seen, open);
                }
                if (a.to >= 0 && a.v == r) {
                    pass(p, a.to, seen, open);
                }
            }
            return seen;
        }

        void pass(int p, int r, Set<Integer> seen, ArrayDeque<Integer> open) {
            for (int q : nexts.get(p)) {
                if (seen.add(q * 100 + r)) {
                    open.add(q * 100 + r);
                }
            }
        }

        int holds(int p, int v, int l) {
            if (!point(p) || !ref(v) || !loan(l)) {
                return -1;
            }
            return holders(l).contains(p * 100 + v) ? 1 : 0;
        }

        int used(int p, int v) {
            if (!point(p) || !ref(v)) {
                return -1;
            }
            if (!reached(p)) {
                return 0;
            }
            Set<Integer> seen = new HashSet<>(nexts.get(p));
            ArrayDeque<Integer> open = new ArrayDeque<>(seen);
            while (!open.isEmpty()) {
                int q = open.remove();
                if (uses(q, v)) {
                    return 1;
                }
                if (renews(q, v)) {
                    continue;
                }
                for (int n : nexts.get(q)) {
                    if (seen.add(n)) {
                        open.add(n);
                    }
                }
            }
            return 0;
        }

        boolean inForce(int p, Set<Integer> holders) {
            for (int r = 0; r < vars.size(); r++) {
                if (holders.contains(p * 100 + r) && !renews(p, r) && used(p, r) == 1) {
                    return true;
                }
            }
            return false;
        }

        int force(int l, int p) {
            return !point(p) || !loan(l) ? -1 : inForce(p, holders(l)) ? 1 : 0;
        }

        boolean clashes(int p, int l) {
            Act a = acts[p];
            Act b = acts[l];
            if (a.kind == 0 || a.kind == 5 || (a.kind == 6 && ref(a.v)) || a.v != b.v) {
                return false;
            }
            boolean looks = a.kind == 1 || (a.kind == LEND && sort(a.to, 1)) || (a.kind == COPY && sort(a.v, 1));
            return (a.path.startsWith(b.path) || b.path.startsWith(a.path)) && (sort(b.to, 2) || !looks);
        }

        /** For each point the least loan that clashes with it, or -1. */
        int[] clashing() {
            int[] least = new int[150];
            java.util.Arrays.fill(least, -1);
            for (int l = 149; l >= 0; l--) {
                Set<Integer> holders = loan(l) ? holders(l) : Set.of();
                for (int p = 0; p < 150 && !holders.isEmpty(); p++) {
                    if (clashes(p, l) && inForce(p, holders)) {
                        least[p] = l;
                    }
                }
            }
            return least;
        }

        int taker(int p, int leaf) {
            for (int t = 0; t < 150; t++) {
                if (takes(t, leaf) && reached(t) && leads(t, p, leaf)) {
                    return t;
                }
            }
            return -1;
        }

        boolean leads(int t, int p, int leaf) {
            Set<Integer> seen = new HashSet<>(nexts.get(t));
            ArrayDeque<Integer> open = new ArrayDeque<>(seen);
            while (!open.isEmpty()) {
                int q = open.remove();
                if (q == p) {
                    return true;
                }
                if (gives(q, leaf)) {
                    continue;
                }
                for (int n : nexts.get(q)) {
                    if (seen.add(n)) {
                        open.add(n);
                    }
                }
            }
            return false;
        }

        int[] faults() {
            for (int p = 0; p < 150; p++) {
                int leaf = lacks(p);
                if (leaf >= 0) {
                    return new int[] {3, p, taker(p, leaf)};
                }
            }
            int[] least = clashing();
            for (int p = 0; p < 150; p++) {
                if (least[p] >= 0) {
                    return new int[] {4, p, least[p]};
                }
            }
            return new int[] {0, -1, -1};
        }

        int fault(int what) {
            return what == 1 || what == 2 ? faults()[what] : -1;
        }

        int count(int what) {
            int n = 0;
            switch (what) {
                case 0:
                    return vars.size();
                case 1:
                    for (int p = 0; p < 150; p++) {
                        n += loan(p) ? 1 : 0;
                    }
                    return n;
                case 2:
                    for (int p = 0; p < 150; p++) {
                        n += reached(p) ? 1 : 0;
                    }
                    return n;
                case 3:
                    for (int l = 0; l < 150; l++) {
                        Set<Integer> holders = loan(l) ? holders(l) : Set.of();
                        for (int p = 0; p < 150 && !holders.isEmpty(); p++) {
                            n += inForce(p, holders) ? 1 : 0;
                        }
                    }
                    return n;
                case 4:
                    for (int p = 0; p < 150; p++) {
                        n += lacks(p) >= 0 ? 1 : 0;
                    }
                    return n;
                case 5:
                    for (int l : clashing()) {
                        n += l >= 0 ? 1 : 0;
                    }
                    return n;
                default:
                    return -1;
            }
        }
    }

    private static int wrong = 0;
    private static final int[] seenFaults = new int[5];
    private static final int[] seenHeld = new int[4];

    private final Random random;
    private final int span;
    private final int wanted;
    private final int stride;
    private final boolean mostlyGiven;
    private final Model model = new Model();
    private final Watched real = new Watched();
    private final StringBuilder told = new StringBuilder();
    private int calls = 0;

    private ModelTest(int seed, int span, int wanted) {
        this.random = new Random(seed);
        this.span = span;
        this.wanted = wanted;
        this.stride = seed % 3 == 0 ? 1 : 1 + random.nextInt(148 / span + 1);
        this.mostlyGiven = seed % 4 != 0;
    }

    private int due(String call, int got, int want) {
        calls++;
        told.append(call).append(" = ").append(want).append('\n');
        if (got != want) {
            wrong++;
            if (wrong <= 3) {
                System.out.println(told + "the last one answered " + got);
            }
        }
        return want;
    }

    private int point() {
        int r = random.nextInt(60);
        return r == 0 ? 150 : r == 1 ? -1 : r == 2 ? random.nextInt() : Math.min(149, random.nextInt(span) * stride);
    }

    private int var() {
        int r = random.nextInt(60);
        return r == 0 ? model.vars.size() : r == 1 ? -1 : r == 2 ? random.nextInt() : random.nextInt(Math.max(1, model.vars.size()));
    }

    private int path() {
        int r = random.nextInt(24);
        if (r == 0) {
            return random.nextInt(5000) - 100;
        }
        int n = random.nextInt(10) < 4 ? 0 : random.nextInt(3) + random.nextInt(3);
        int path = 0;
        for (int i = 0; i < n && i < 4; i++) {
            path |= (random.nextInt(3) == 0 ? 5 : 1 + random.nextInt(6)) << (3 * i);
        }
        return path;
    }

    private int reference() {
        for (int i = 0; i < 20; i++) {
            int v = random.nextInt(Math.max(1, model.vars.size()));
            if (model.ref(v)) {
                return v;
            }
        }
        return var();
    }

    private void makeVariable() {
        int sort = random.nextInt(30) == 0 ? random.nextInt(7) - 2 : random.nextInt(3);
        int n = sort == 0 ? 1 + random.nextInt(4) : 1;
        if (random.nextInt(30) == 0) {
            n = random.nextInt(8) - 1;
        }
        int v = due("variable(" + sort + ", " + n + ")", real.variable(sort, n), model.variable(sort, n));
        if (v >= 0 && mostlyGiven && random.nextInt(8) != 0) {
            due("begins(" + v + ", true)", real.begins(v, true), model.begins(v, true));
        }
    }

    private void change() {
        int p = point();
        int kind = random.nextInt(20);
        if (kind < 6) {
            int q = random.nextInt(3) == 0 ? point() : p + stride;
            boolean is = random.nextInt(6) != 0;
            due("next(" + p + ", " + q + ", " + is + ")", real.next(p, q, is), model.next(p, q, is));
        } else if (kind < 10) {
            int to = random.nextInt(9) == 0 ? var() : reference();
            int v = var();
            int path = path();
            if (model.ref(v) && random.nextInt(8) != 0) {
                path = 5 | (random.nextBoolean() ? 0 : (1 + random.nextInt(3)) << 3);
            }
            due("lend(" + p + ", " + to + ", " + v + ", " + path + ")", real.lend(p, to, v, path), model.lend(p, to, v, path));
        } else if (kind < 12) {
            int to = random.nextInt(9) == 0 ? var() : reference();
            int from = random.nextInt(9) == 0 ? var() : reference();
            due("copy(" + p + ", " + to + ", " + from + ")", real.copy(p, to, from), model.copy(p, to, from));
        } else if (kind < 19) {
            int act = random.nextInt(30) == 0 ? random.nextInt(14) - 3 : 1 + random.nextInt(6);
            if (act == 5 && random.nextInt(3) != 0) {
                act = 1;
            }
            int v = random.nextInt(3) == 0 ? var() : reference();
            int path = model.ref(v) && random.nextInt(6) != 0 ? 5 : path();
            due("act(" + p + ", " + act + ", " + v + ", " + path + ")", real.act(p, act, v, path), model.act(p, act, v, path));
        } else {
            int v = var();
            boolean is = mostlyGiven ? random.nextInt(10) != 0 : random.nextBoolean();
            due("begins(" + v + ", " + is + ")", real.begins(v, is), model.begins(v, is));
        }
    }

    private int loanPoint() {
        for (int i = 0; i < 30; i++) {
            int p = Math.min(149, random.nextInt(span) * stride);
            if (model.loan(p)) {
                return p;
            }
        }
        return point();
    }

    private void ask() {
        int p = point();
        int v = random.nextInt(8) == 0 ? var() : reference();
        switch (random.nextInt(8)) {
            case 0:
                seenFaults[due("judge()", real.judge(), model.faults()[0])]++;
                due("fault(1)", real.fault(1), model.fault(1));
                due("fault(2)", real.fault(2), model.fault(2));
                break;
            case 1:
                int what = random.nextInt(12) - 3;
                due("fault(" + what + ")", real.fault(what), model.fault(what));
                break;
            case 2:
                due("comes(" + p + ")", real.comes(p), model.comes(p));
                break;
            case 3:
                int u = var();
                int leaf = random.nextInt(20) == 0 ? random.nextInt(9) - 2 : random.nextInt(model.var(u) ? model.vars.get(u)[1] : 4);
                seenHeld[1 + due("held(" + p + ", " + u + ", " + leaf + ")", real.held(p, u, leaf), model.held(p, u, leaf))]++;
                break;
            case 4:
                int l = loanPoint();
                due("holds(" + p + ", " + v + ", " + l + ")", real.holds(p, v, l), model.holds(p, v, l));
                break;
            case 5:
                due("used(" + p + ", " + v + ")", real.used(p, v), model.used(p, v));
                break;
            case 6:
                int m = loanPoint();
                due("force(" + m + ", " + p + ")", real.force(m, p), model.force(m, p));
                break;
            default:
                int n = random.nextInt(9) - 1;
                due("count(" + n + ")", real.count(n), model.count(n));
        }
    }

    private void run() {
        for (int i = 0; i < wanted; i++) {
            makeVariable();
        }
        int changes = Math.min(300, span * 4);
        for (int i = 0; i < changes; i++) {
            change();
        }
        while (calls < CALLS - 4) {
            if (random.nextInt(3) == 0) {
                change();
            } else {
                ask();
            }
        }
    }

    public static void main(String[] args) {
        for (int seed = 0; seed < 1500; seed++) {
            new ModelTest(seed, 2 + seed % 11, 2 + seed % 7).run();
        }
        for (int seed = 0; seed < 60; seed++) {
            new ModelTest(seed, 20 + seed, 10 + seed % 9).run();
        }
        for (int seed = 0; seed < 20; seed++) {
            new ModelTest(seed, 149, 17).run();
        }
        if (seenFaults[0] < 500 || seenFaults[3] < 500 || seenFaults[4] < 500 || seenHeld[3] < 500) {
            System.out.println("the runs are too much alike to test anything");
            wrong++;
        }
        System.out.println(wrong == 0 ? "all answers are the model's" : wrong + " answers are not the model's");
        if (wrong != 0) {
            System.exit(1);
        }
    }
}
