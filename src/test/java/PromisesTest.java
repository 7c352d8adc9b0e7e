/** Each promise of the document by examples: ordinary inputs, the edges, and wrong inputs. */
public final class PromisesTest {
    private static final int NONE = LoanWays.NONE;
    private static final int READ = 1;
    private static final int MOVE = 2;
    private static final int GIVE = 3;
    private static final int CHANGE = 4;
    private static final int LET = 5;
    private static final int END = 6;
    private static final int BEHIND = 5;

    private static int wrong = 0;
    private static String part = "";

    private static void due(String what, int got, int want) {
        if (got != want) {
            wrong++;
            System.out.println(part + ": " + what + " answered " + got + ", due is " + want);
        }
    }

    /** A digit behind another: path(2, 5) is part 1 and what is behind it. */
    private static int path(int... digits) {
        int path = 0;
        for (int i = 0; i < digits.length; i++) {
            path |= digits[i] << (3 * i);
        }
        return path;
    }

    private static void chain(Watched x, int... points) {
        for (int i = 0; i + 1 < points.length; i++) {
            due("next", x.next(points[i], points[i + 1], true), 1);
        }
    }

    /** Variables: 0 plain of one leaf, 1 plain of three, 2 and 3 shared, 4 to 6 sole; plain ones given. */
    private static Watched usual() {
        Watched x = new Watched();
        x.variable(0, 1);
        x.variable(0, 3);
        x.variable(1, 1);
        x.variable(1, 1);
        x.variable(2, 1);
        x.variable(2, 1);
        x.variable(2, 1);
        x.begins(0, true);
        x.begins(1, true);
        return x;
    }

    private static void newObject() {
        part = "1 new object";
        due("NONE", NONE, -1);
        Watched x = new Watched();
        for (int what = 0; what <= 5; what++) {
            due("count " + what, x.count(what), what == 2 ? 1 : 0);
        }
        due("judge", x.judge(), 0);
        due("fault", x.fault(1), NONE);
        for (int p = 0; p < 150; p++) {
            due("comes", x.comes(p), p == 0 ? 1 : 0);
            due("holds", x.holds(p, 0, p), NONE);
            due("force", x.force(p, p), NONE);
        }
        due("begins", x.begins(0, true), NONE);
        due("read", x.act(0, READ, 0, 0), NONE);
        Watched other = new Watched();
        other.variable(0, 1);
        other.next(0, 1, true);
        due("objects are apart", x.count(0), 0);
        due("objects are apart", x.count(2), 1);
    }

    private static void variable() {
        part = "2 variable";
        Watched x = new Watched();
        int[][] bad = {{0, 0}, {0, 5}, {0, -1}, {1, 0}, {1, 2}, {2, 0}, {2, 2}, {3, 1}, {-1, 1},
            {Integer.MIN_VALUE, 1}, {0, Integer.MAX_VALUE}};
        for (int[] b : bad) {
            due("variable " + b[0] + " " + b[1], x.variable(b[0], b[1]), NONE);
        }
        due("none made", x.count(0), 0);
        int[][] good = {{0, 1}, {0, 2}, {0, 3}, {0, 4}, {1, 1}, {2, 1}};
        for (int i = 0; i < 16; i++) {
            int[] g = good[i % good.length];
            due("variable", x.variable(g[0], g[1]), i);
            due("count", x.count(0), i + 1);
        }
        for (int[] g : good) {
            due("a seventeenth", x.variable(g[0], g[1]), NONE);
        }
        due("still 16", x.count(0), 16);
        for (int v = 0; v < 16; v++) {
            int leaves = good[v % good.length][1];
            due("last leaf", x.held(0, v, leaves - 1), 0);
            due("no leaf", x.held(0, v, leaves), NONE);
            due("reference", x.used(0, v), good[v % good.length][0] == 0 ? NONE : 0);
        }
    }

    private static void begins() {
        part = "3 begins";
        Watched x = usual();
        due("no such variable", x.begins(7, true), NONE);
        due("no such variable", x.begins(-1, true), NONE);
        due("not at first", x.held(0, 4, 0), 0);
        due("a reference", x.begins(4, true), 1);
        due("held now", x.held(0, 4, 0), 1);
        for (int leaf = 0; leaf < 3; leaf++) {
            due("all leaves", x.held(0, 1, leaf), 1);
        }
        due("not any more", x.begins(1, false), 1);
        for (int leaf = 0; leaf < 3; leaf++) {
            due("no leaf", x.held(0, 1, leaf), 0);
        }
        due("others stay", x.held(0, 0, 0), 1);
        due("others stay", x.held(0, 4, 0), 1);
        Watched y = new Watched();
        for (int v = 0; v < 16; v++) {
            y.variable(0, 4);
        }
        due("the last variable", y.begins(15, true), 1);
        due("its last leaf", y.held(0, 15, 3), 1);
        due("the leaf ahead of it", y.held(0, 14, 3), 0);
        due("a way back", y.act(0, MOVE, 15, 4), 1);
        chain(y, 0, 0);
        due("held on the first way only", y.held(0, 15, 3), 2);
        due("the other leaf", y.held(0, 15, 2), 1);
    }

    private static void act() {
        part = "4 act";
        Watched x = usual();
        x.begins(4, true);
        due("read", x.act(0, READ, 2, BEHIND), 1);
        int[][] bad = {
            {-1, READ, 0, 0}, {150, READ, 0, 0}, {-1, 0, 0, 0}, {150, 0, 0, 0}, {150, LET, 0, 0},
            {0, 7, 0, 0}, {0, 8, 0, 0}, {0, -1, 0, 0}, {0, READ, 7, 0}, {0, READ, -1, 0},
            {0, LET, 7, 0}, {0, END, -1, 0},
            {0, READ, 0, -1}, {0, READ, 0, 7}, {0, READ, 0, 8}, {0, READ, 0, path(1, 0, 1)},
            {0, READ, 0, 4096}, {0, READ, 0, path(1, 1, 1, 1, 1)}, {0, READ, 0, path(1, 1, 1, 7)},
            {0, READ, 0, Integer.MIN_VALUE}, {0, READ, 0, Integer.MAX_VALUE},
            {0, READ, 1, 4}, {0, READ, 1, 5}, {0, READ, 1, 6}, {0, READ, 1, path(4, 1)},
            {0, READ, 4, 1}, {0, READ, 4, 6}, {0, READ, 4, path(1, 5)},
            {0, READ, 4, 0}, {0, GIVE, 4, 0}, {0, CHANGE, 4, 0}, {0, READ, 2, 0},
            {0, MOVE, 4, 0}, {0, MOVE, 4, BEHIND}, {0, MOVE, 2, BEHIND},
            {0, GIVE, 2, BEHIND}, {0, CHANGE, 2, BEHIND}, {0, GIVE, 2, path(5, 1)},
            {0, MOVE, 0, 1}, {0, MOVE, 0, 5}, {0, MOVE, 1, path(1, 1)}, {0, MOVE, 1, 4}};
        for (int[] b : bad) {
            due("act " + b[0] + " " + b[1] + " " + b[2] + " " + b[3], x.act(b[0], b[1], b[2], b[3]), NONE);
            due("it still reads", x.count(4), 1);
        }
        int[][] good = {
            {READ, 0, 0}, {READ, 0, path(1, 2, 3, 4)}, {READ, 0, path(5, 6, 5, 6)}, {READ, 0, 4},
            {READ, 0, path(6, 6, 6, 6)}, {READ, 1, 0}, {READ, 1, 3}, {READ, 1, path(3, 4, 5, 6)},
            {READ, 4, path(5, 1)}, {MOVE, 0, 0}, {MOVE, 1, 0}, {MOVE, 1, 3},
            {GIVE, 0, 0}, {GIVE, 0, 6}, {GIVE, 1, 0}, {GIVE, 1, 2}, {GIVE, 4, BEHIND},
            {CHANGE, 0, 0}, {CHANGE, 1, 3}, {CHANGE, 4, path(5, 5)},
            {LET, 0, 0}, {LET, 4, -7}, {LET, 2, 7}, {END, 1, 4096}, {END, 4, 0}, {END, 2, 0},
            {0, 99, 99}, {0, -1, -1}};
        for (int[] g : good) {
            due("act " + g[0] + " " + g[1] + " " + g[2], x.act(0, g[0], g[1], g[2]), 1);
            due("all is held", x.judge(), 0);
        }
        due("the last point", x.act(149, READ, 3, BEHIND), 1);
        due("no way comes to it", x.judge(), 0);
        chain(x, 0, 149);
        due("a way comes to it", x.fault(1), 149);
        due("nothing", x.act(149, 0, 0, 0), 1);
        due("no fault", x.judge(), 0);
    }

    private static void lend() {
        part = "5 lend";
        Watched x = usual();
        int[][] bad = {
            {-1, 2, 0, 0}, {150, 2, 0, 0}, {0, 0, 0, 0}, {0, 1, 0, 0}, {0, 7, 0, 0}, {0, -1, 0, 0},
            {0, 2, 7, 0}, {0, 2, -1, 0}, {0, 2, 0, 7}, {0, 2, 0, -1}, {0, 2, 0, 4096}, {0, 2, 1, 4},
            {0, 2, 1, 5}, {0, 2, 4, 0}, {0, 4, 4, 0}, {0, 3, 2, 0}, {0, 2, 4, 1},
            {0, 4, 2, BEHIND}, {0, 4, 2, path(5, 1)}};
        for (int[] b : bad) {
            due("lend " + b[0] + " " + b[1] + " " + b[2] + " " + b[3], x.lend(b[0], b[1], b[2], b[3]), NONE);
            due("nothing lent", x.count(1), 0);
        }
        int[][] good = {
            {2, 0, 0, 1}, {2, 0, path(5, 6, 1, 2), 1}, {4, 1, 0, 1}, {4, 1, path(3, 5), 1},
            {2, 4, BEHIND, 1}, {4, 5, BEHIND, 1}, {4, 4, path(5, 2), 1}, {2, 2, BEHIND, 0}, {2, 3, BEHIND, 0}};
        for (int[] g : good) {
            due("lend " + g[0] + " " + g[1] + " " + g[2], x.lend(9, g[0], g[1], g[2]), 1);
            due("loans", x.count(1), g[3]);
        }
        manyLends();
    }

    private static void manyLends() {
        Watched x = usual();
        for (int i = 0; i < 60; i++) {
            due("lend", x.lend(149 - 2 * i, 2, i % 2 == 0 ? 0 : 3, i % 2 == 0 ? 0 : BEHIND), 1);
        }
        due("half make loans", x.count(1), 30);
        due("a sixty-first", x.lend(0, 2, 0, 0), NONE);
        due("a sixty-first without a loan", x.lend(0, 2, 3, BEHIND), NONE);
        due("none there", x.force(0, 0), NONE);
        due("one of the sixty", x.lend(149, 4, 0, 0), 1);
        due("a wrong one keeps the old", x.lend(149, 4, 2, BEHIND), NONE);
        due("still a loan", x.force(149, 0), 0);
        due("another act there", x.act(149, READ, 0, 0), 1);
        due("room now", x.lend(0, 2, 0, 0), 1);
        due("no more room", x.lend(149, 2, 0, 0), NONE);
        due("a copy there", x.copy(0, 3, 2), 1);
        due("room again", x.lend(149, 2, 0, 0), 1);
    }

    private static void copy() {
        part = "6 copy";
        Watched x = usual();
        int[][] bad = {{-1, 3, 2}, {150, 3, 2}, {0, 2, 2}, {0, 4, 4}, {0, 4, 2}, {0, 2, 4}, {0, 0, 1},
            {0, 2, 0}, {0, 0, 2}, {0, 7, 2}, {0, 2, 7}, {0, -1, 2}, {0, 2, -1}};
        for (int[] b : bad) {
            due("copy " + b[0] + " " + b[1] + " " + b[2], x.copy(b[0], b[1], b[2]), NONE);
            due("nothing is wanted", x.judge(), 0);
        }
        due("shared", x.copy(0, 3, 2), 1);
        due("it wants", x.fault(1), 0);
        chain(x, 0, 1);
        due("given", x.held(1, 3, 0), 1);
        x.begins(2, true);
        due("a shared one stays", x.held(1, 2, 0), 1);
        due("sole", x.copy(0, 5, 4), 1);
        x.begins(4, true);
        due("ahead", x.held(0, 4, 0), 1);
        due("taken", x.held(1, 4, 0), 0);
        due("given", x.held(1, 5, 0), 1);
    }

    private static void next() {
        part = "7 next";
        Watched x = usual();
        int[][] bad = {{-1, 0}, {150, 0}, {0, -1}, {0, 150}, {Integer.MIN_VALUE, 0}, {0, Integer.MAX_VALUE}};
        for (int[] b : bad) {
            due("next", x.next(b[0], b[1], true), NONE);
            due("not next", x.next(b[0], b[1], false), NONE);
        }
        due("not next at first", x.next(0, 3, false), 1);
        for (int q = 146; q <= 149; q++) {
            due("next", x.next(0, q, true), 1);
            due("again", x.next(0, q, true), 1);
        }
        due("five points", x.count(2), 5);
        due("a fifth", x.next(0, 0, true), NONE);
        due("one that is next", x.next(0, 147, true), 1);
        due("one that is not, off", x.next(0, 3, false), 1);
        due("five points", x.count(2), 5);
        due("off", x.next(0, 146, false), 1);
        due("it goes", x.comes(146), 0);
        for (int q = 147; q <= 149; q++) {
            due("others stay", x.comes(q), 1);
        }
        due("to itself", x.next(0, 0, true), 1);
        due("a fifth", x.next(0, 146, true), NONE);
        due("one way only", x.next(1, 0, true), 1);
        due("one way only", x.comes(1), 0);
    }

    private static void judgeUnheld() {
        part = "8, 9 fault 3";
        Watched x = usual();
        x.act(5, MOVE, 1, 2);
        x.act(3, MOVE, 1, 2);
        x.act(7, READ, 1, 0);
        chain(x, 0, 5, 3, 7);
        due("judge", x.judge(), 3);
        due("a move of what is moved", x.fault(1), 3);
        due("who took it", x.fault(2), 5);
        due("no such what", x.fault(0), NONE);
        due("no such what", x.fault(3), NONE);
        x.act(3, GIVE, 1, path(2, 1));
        due("giving within wants", x.fault(1), 3);
        x.act(3, GIVE, 1, 2);
        due("given again", x.judge(), 0);
        x.next(5, 7, true);
        due("not on all ways", x.fault(1), 7);
        due("past the giver", x.fault(2), 5);
        due("some ways", x.held(7, 1, 1), 2);
        x.act(5, 0, 0, 0);
        x.begins(1, false);
        due("never given", x.fault(1), 7);
        due("nobody took it", x.fault(2), NONE);
        x.act(3, CHANGE, 1, 3);
        due("change wants", x.fault(1), 3);

        Watched y = usual();
        y.act(2, MOVE, 0, 0);
        chain(y, 0, 2, 2);
        due("a way back", y.fault(1), 2);
        due("taken by itself", y.fault(2), 2);
        y.next(2, 2, false);
        due("no way back", y.judge(), 0);
        y.begins(0, false);
        due("never given", y.fault(1), 2);
        due("not taken ahead of it", y.fault(2), NONE);
        firstLeaf();
        longWay();
    }

    /** All points on one way, the greatest first, and a way back. */
    private static void longWay() {
        Watched x = usual();
        chain(x, 0, 149);
        for (int p = 149; p > 1; p--) {
            x.next(p, p - 1, true);
        }
        x.act(149, MOVE, 1, 3);
        x.act(1, READ, 1, path(3, 6));
        due("from the one end to the other", x.fault(1), 1);
        due("all points between", x.fault(2), 149);
        due("all the same", x.count(4), 1);
        x.act(75, GIVE, 1, 0);
        due("given between", x.judge(), 0);
        x.next(1, 0, true);
        x.act(1, MOVE, 1, 3);
        x.act(0, READ, 1, 3);
        due("the way back", x.fault(1), 0);
        due("taken there", x.fault(2), 1);
        due("unheld", x.count(4), 2);
        due("on some ways", x.held(149, 1, 2), 2);
    }

    private static void firstLeaf() {
        Watched x = usual();
        x.act(1, MOVE, 1, 3);
        x.act(2, MOVE, 1, 1);
        x.act(3, READ, 1, 0);
        chain(x, 0, 1, 2, 3);
        due("point", x.fault(1), 3);
        due("who took the first leaf", x.fault(2), 2);
        x.act(2, LET, 1, 0);
        x.act(1, MOVE, 1, 1);
        due("both took it", x.fault(2), 1);
        x.act(4, MOVE, 1, 1);
        x.next(4, 3, true);
        x.act(0, 0, 0, 0);
        due("no way comes to the third", x.fault(2), 1);
        Watched y = usual();
        y.act(0, MOVE, 1, 1);
        y.act(1, GIVE, 1, 0);
        y.act(2, LET, 1, 0);
        y.act(3, READ, 1, path(1, 5));
        chain(y, 0, 1, 2, 3);
        due("given behind point 0", y.fault(2), 2);
        y.next(1, 3, true);
        due("by LET on one way", y.fault(2), 2);
        y.act(1, END, 1, 0);
        due("END gives nothing", y.fault(2), 0);
        y.act(0, END, 1, 0);
        y.act(2, END, 1, 0);
        due("END takes nothing", y.judge(), 0);
    }

    private static void judgeClash() {
        part = "8, 9 fault 4";
        // who lends, what is lent, the act and its path, whether it clashes
        int[][] rows = {
            {2, 0, READ, 0, 0}, {2, 0, GIVE, 0, 1}, {2, 0, MOVE, 0, 1}, {2, 0, CHANGE, 0, 1},
            {2, 0, END, 0, 1}, {2, 0, LET, 0, 0}, {4, 0, READ, 0, 1}, {4, 0, END, 0, 1}, {4, 0, LET, 0, 0},
            {4, 1, READ, 0, 1}, {4, 1, READ, 1, 1}, {4, 1, READ, 2, 0}, {4, 1, MOVE, 2, 0},
            {4, 1, READ, path(1, 5), 1}, {4, path(1, 5), READ, 1, 1}, {4, path(1, 5), READ, path(1, 6), 0},
            {4, path(1, 6, 2), READ, path(1, 6, 2, 4), 1}, {4, path(1, 6, 2, 4), READ, path(1, 6, 2, 3), 0},
            {2, 2, CHANGE, 2, 1}, {2, 2, CHANGE, 3, 0}, {2, 2, MOVE, 0, 1}, {2, path(3, 1), END, 0, 1}};
        for (int[] r : rows) {
            Watched x = usual();
            x.lend(3, r[0], 1, r[1]);
            due("act", x.act(1, r[2], 1, r[3]), 1);
            x.act(2, READ, r[0], BEHIND);
            chain(x, 0, 3, 1, 2);
            String row = "lent to " + r[0] + " " + r[1] + ", act " + r[2] + " " + r[3];
            due(row, x.judge(), r[4] == 1 ? 4 : 0);
            due(row, x.fault(1), r[4] == 1 ? 1 : NONE);
            due(row, x.fault(2), r[4] == 1 ? 3 : NONE);
            due(row, x.count(5), r[4]);
            due("in force", x.force(3, 1), 1);
        }
        clashOfLends();
        clashOfCopies();
        clashBehindFault();
    }

    private static void clashOfLends() {
        Watched x = usual();
        x.lend(0, 2, 0, 0);
        x.lend(1, 3, 0, 0);
        x.act(2, READ, 2, BEHIND);
        chain(x, 0, 1, 2);
        due("shared beside shared", x.judge(), 0);
        x.lend(1, 4, 0, 0);
        due("sole beside shared", x.fault(1), 1);
        x.lend(0, 5, 0, 0);
        x.act(2, READ, 5, BEHIND);
        x.lend(1, 2, 0, 0);
        due("shared beside sole", x.fault(1), 1);
        x.lend(1, 2, 1, 0);
        due("another variable", x.judge(), 0);
        Watched y = usual();
        y.begins(5, true);
        y.lend(1, 4, 0, 0);
        y.act(2, READ, 5, BEHIND);
        y.copy(3, 5, 4);
        chain(y, 0, 1, 2, 3, 1);
        due("its own loan, kept by another", y.fault(1), 1);
        due("by itself", y.fault(2), 1);
        y.act(2, READ, 4, BEHIND);
        due("given anew", y.judge(), 0);
        Watched z = usual();
        z.lend(2, 2, 0, 0);
        z.lend(1, 3, 0, 0);
        z.act(3, GIVE, 0, 0);
        z.act(4, READ, 2, BEHIND);
        z.act(5, READ, 3, BEHIND);
        chain(z, 0, 2, 1, 3, 4, 5);
        due("two loans", z.fault(1), 3);
        due("the least one", z.fault(2), 1);
    }

    private static void clashOfCopies() {
        Watched x = usual();
        x.begins(4, true);
        x.lend(0, 2, 4, path(5, 1));
        x.copy(1, 5, 4);
        x.act(2, READ, 2, BEHIND);
        chain(x, 0, 1, 2);
        due("a copy from a sole one is like a move", x.fault(1), 1);
        due("with the loan", x.fault(2), 0);
        x.act(1, END, 4, 0);
        due("the end of a reference", x.judge(), 0);
        due("though in force", x.force(0, 1), 1);
        x.act(1, LET, 4, 0);
        due("LET of a reference", x.judge(), 0);
        x.copy(1, 4, 5);
        x.begins(5, true);
        due("a copy to it", x.judge(), 0);
        x.lend(1, 4, 0, 0);
        due("a lend to it", x.judge(), 0);
        x.act(1, GIVE, 4, path(5, 1, 2));
        due("a giving through it", x.fault(1), 1);
        x.act(1, GIVE, 4, path(5, 2));
        due("beside it", x.judge(), 0);
        x.lend(1, 4, 4, BEHIND);
        due("lent anew to itself", x.fault(1), 1);
        Watched y = usual();
        y.begins(2, true);
        y.lend(0, 3, 2, BEHIND);
        y.copy(1, 3, 2);
        y.act(2, READ, 3, BEHIND);
        chain(y, 0, 1, 2);
        due("shared ones", y.judge(), 0);
        due("through a shared one", y.force(0, 1), NONE);
    }

    private static void clashBehindFault() {
        Watched x = usual();
        x.lend(0, 2, 0, 0);
        x.act(1, GIVE, 0, 0);
        x.act(2, READ, 2, BEHIND);
        x.act(3, READ, 3, BEHIND);
        chain(x, 0, 1, 2, 3);
        due("fault 3 goes first", x.judge(), 3);
        due("its point", x.fault(1), 3);
        due("unheld", x.count(4), 1);
        due("clashing all the same", x.count(5), 1);
        x.act(3, 0, 0, 0);
        due("fault 4", x.judge(), 4);
        due("its point", x.fault(1), 1);
        x.next(1, 2, false);
        due("no longer used", x.judge(), 0);
        due("fault without one", x.fault(2), NONE);
    }

    private static void comes() {
        part = "10 comes";
        Watched x = new Watched();
        due("no point", x.comes(-1), NONE);
        due("no point", x.comes(150), NONE);
        for (int p = 0; p < 149; p++) {
            int q = (p + 1) * 7 % 149;
            due("next", x.next(p * 7 % 149, q == 0 ? 149 : q, true), 1);
        }
        for (int p = 0; p < 150; p++) {
            due("all points", x.comes(p), 1);
        }
        due("count", x.count(2), 150);
        x.next(7, 14, false);
        due("cut off", x.comes(14), 0);
        due("ahead of that", x.comes(7), 1);
        due("count", x.count(2), 2);
    }

    private static void held() {
        part = "11 held";
        Watched x = usual();
        int[][] bad = {{-1, 0, 0}, {150, 0, 0}, {0, -1, 0}, {0, 7, 0}, {0, 0, -1}, {0, 0, 1}, {0, 1, 3}, {1, 0, 0}};
        for (int[] b : bad) {
            due("held " + b[0] + " " + b[1] + " " + b[2], x.held(b[0], b[1], b[2]), NONE);
        }
        x.act(0, LET, 1, 0);
        x.act(1, GIVE, 1, 0);
        x.act(2, MOVE, 1, 3);
        x.act(3, GIVE, 1, 2);
        chain(x, 0, 1, 2, 4);
        chain(x, 0, 3, 4);
        due("ahead of the act", x.held(0, 1, 0), 1);
        due("behind LET", x.held(1, 1, 1), 0);
        due("behind GIVE", x.held(2, 1, 1), 1);
        due("on some", x.held(4, 1, 0), 2);
        due("on all", x.held(4, 1, 1), 1);
        due("on none", x.held(4, 1, 2), 0);
        x.act(1, GIVE, 1, path(1, 1));
        due("giving within gives nothing", x.held(2, 1, 0), 0);
        x.act(1, GIVE, 0, 5);
        x.begins(0, false);
        due("giving within gives nothing", x.held(2, 0, 0), 0);
        x.act(1, GIVE, 0, 0);
        due("giving gives", x.held(2, 0, 0), 1);
        x.lend(1, 4, 0, 0);
        due("lending gives", x.held(2, 4, 0), 1);
        x.act(2, LET, 4, 0);
        due("LET takes", x.held(4, 4, 0), 0);
        x.act(2, END, 4, 0);
        due("END does not", x.held(4, 4, 0), 2);
        x.act(2, GIVE, 4, BEHIND);
        due("giving through does not", x.held(4, 4, 0), 2);
    }

    private static void holds() {
        part = "12 holds";
        Watched x = usual();
        x.lend(0, 4, 0, 0);
        x.lend(1, 5, 4, path(5, 1));
        x.copy(2, 6, 5);
        x.lend(3, 2, 6, BEHIND);
        x.lend(4, 3, 2, BEHIND);
        x.act(5, LET, 4, 0);
        x.lend(6, 6, 6, BEHIND);
        chain(x, 0, 1, 2, 3, 4, 5, 6, 7);
        int[][] bad = {{-1, 4, 0}, {150, 4, 0}, {0, 0, 0}, {0, 7, 0}, {0, -1, 0}, {0, 4, 2}, {0, 4, 4},
            {0, 4, -1}, {0, 4, 150}, {0, 4, 149}};
        for (int[] b : bad) {
            due("holds " + b[0] + " " + b[1] + " " + b[2], x.holds(b[0], b[1], b[2]), NONE);
        }
        due("ahead of the act", x.holds(0, 4, 0), 0);
        due("behind it", x.holds(1, 4, 0), 1);
        due("through", x.holds(2, 5, 0), 1);
        due("its own", x.holds(2, 5, 1), 1);
        due("not the lender", x.holds(2, 4, 1), 0);
        due("copied", x.holds(3, 6, 1), 1);
        due("stays when taken", x.holds(3, 5, 1), 1);
        due("lent on", x.holds(4, 2, 3), 1);
        due("through a shared one", x.holds(5, 3, 3), 1);
        due("and all that it held", x.holds(5, 3, 0), 1);
        due("gone with LET", x.holds(6, 4, 0), 0);
        for (int v = 2; v <= 6; v++) {
            due("gone from all", x.holds(6, v, 1), 0);
            due("what others hold stays", x.holds(6, v, 0), v == 4 ? 0 : 1);
            due("lent through itself: gone at once", x.holds(7, v, 6), 0);
            due("the old loans through it too", x.holds(7, v, 3), 0);
        }
        due("what it held stays", x.holds(7, 6, 0), 1);
        holdsOnWays();
    }

    private static void holdsOnWays() {
        Watched x = usual();
        x.lend(1, 4, 0, 0);
        x.lend(2, 4, 1, 0);
        x.lend(3, 5, 4, BEHIND);
        x.copy(4, 4, 5);
        chain(x, 0, 1, 3, 4, 5);
        chain(x, 0, 2, 3);
        due("on one way", x.holds(3, 4, 1), 1);
        due("on the other", x.holds(3, 4, 2), 1);
        due("a loan through it", x.holds(4, 5, 3), 1);
        due("goes, also from it", x.holds(5, 4, 3), 0);
        due("and from the other", x.holds(5, 5, 3), 0);
        due("the others stay", x.holds(5, 4, 2), 1);
        due("no way comes there", x.holds(6, 4, 1), 0);
        x.lend(6, 5, 0, 0);
        x.next(6, 3, true);
        due("from where no way comes", x.holds(3, 5, 6), 0);
        x.act(2, LET, 4, 0);
        due("LET on one way", x.holds(3, 4, 1), 1);
        x.act(1, 0, 0, 0);
        due("no loan any more", x.holds(3, 4, 1), NONE);
    }

    private static void used() {
        part = "13 used";
        Watched x = usual();
        int[][] bad = {{-1, 4}, {150, 4}, {0, 0}, {0, 1}, {0, 7}, {0, -1}};
        for (int[] b : bad) {
            due("used " + b[0] + " " + b[1], x.used(b[0], b[1]), NONE);
        }
        x.lend(1, 4, 0, 0);
        x.act(2, READ, 4, path(5, 2));
        chain(x, 0, 1, 2, 3);
        due("given anew ahead", x.used(0, 4), 0);
        due("used behind", x.used(1, 4), 1);
        due("not its own use", x.used(2, 4), 0);
        due("no way comes there", x.used(9, 4), 0);
        x.next(9, 2, true);
        due("no way comes there", x.used(9, 4), 0);
        x.lend(1, 4, 4, BEHIND);
        due("used ahead of being given", x.used(0, 4), 1);
        x.next(3, 2, true);
        due("on a way back", x.used(2, 4), 1);
        x.act(3, LET, 4, 0);
        due("LET gives anew", x.used(2, 4), 0);
        due("behind LET", x.used(3, 4), 1);
        x.act(3, END, 4, 0);
        due("END does not", x.used(2, 4), 1);
        for (int kind : new int[] {READ, GIVE, CHANGE}) {
            x.act(2, kind, 4, BEHIND);
            due("act " + kind, x.used(1, 4), 1);
        }
        x.copy(2, 5, 4);
        due("copied from", x.used(1, 4), 1);
        due("copied to", x.used(1, 5), 0);
        x.act(2, END, 4, 0);
        due("END does not use", x.used(1, 4), 0);
        x.act(2, LET, 4, 0);
        due("LET does not use", x.used(1, 4), 0);
        Watched y = usual();
        y.lend(1, 2, 2, BEHIND);
        chain(y, 0, 1, 1);
        due("by this one on a way back", y.used(1, 2), 1);
        y.lend(1, 2, 0, 0);
        due("given anew by this one", y.used(1, 2), 0);
    }

    private static void force() {
        part = "14 force";
        Watched x = usual();
        x.lend(1, 4, 0, 0);
        x.lend(2, 5, 4, BEHIND);
        x.act(4, READ, 5, BEHIND);
        chain(x, 0, 1, 2, 6, 3, 4, 5);
        int[][] bad = {{-1, 0}, {150, 0}, {1, -1}, {1, 150}, {0, 0}, {4, 0}, {149, 0}};
        for (int[] b : bad) {
            due("force " + b[0] + " " + b[1], x.force(b[0], b[1]), NONE);
        }
        int[] first = {0, 0, 0, 1, 0, 0, 1};
        int[] second = {0, 0, 0, 1, 0, 0, 1};
        for (int p = 0; p <= 6; p++) {
            due("first " + p, x.force(1, p), first[p]);
            due("second " + p, x.force(2, p), second[p]);
        }
        due("pairs", x.count(3), 4);
        x.act(3, LET, 5, 0);
        due("the point's own LET", x.force(1, 3), 0);
        x.lend(3, 5, 0, 0);
        due("the point's own LEND", x.force(1, 3), 0);
        x.begins(6, true);
        x.copy(3, 5, 6);
        due("the point's own COPY", x.force(1, 3), 0);
        x.lend(3, 5, 5, BEHIND);
        due("its own LEND through it, ahead", x.force(1, 6), 1);
        due("its own LEND through it", x.force(1, 3), 0);
        x.act(3, LET, 4, 0);
        due("LET of what it goes through, ahead", x.force(2, 3), 1);
        due("and behind", x.force(2, 4), 0);
        x.act(3, 0, 0, 0);
        x.next(5, 4, true);
        due("on a way back", x.force(2, 4), 1);
        x.lend(8, 2, 0, 0);
        due("a loan that no way comes to", x.force(8, 0), 0);
    }

    private static void count() {
        part = "15 count";
        Watched x = usual();
        due("no such what", x.count(-1), NONE);
        due("no such what", x.count(6), NONE);
        due("variables", x.count(0), 7);
        x.lend(0, 2, 0, 0);
        x.act(1, GIVE, 0, 0);
        x.act(2, CHANGE, 0, 0);
        x.act(3, READ, 2, BEHIND);
        x.act(4, READ, 3, BEHIND);
        x.act(5, CHANGE, 4, BEHIND);
        x.lend(9, 4, 0, 0);
        x.act(10, READ, 5, BEHIND);
        chain(x, 0, 1, 2, 3, 4, 5);
        chain(x, 9, 10);
        due("loans", x.count(1), 2);
        due("points", x.count(2), 6);
        due("pairs", x.count(3), 2);
        due("unheld", x.count(4), 2);
        due("clashing", x.count(5), 2);
        sixtyLoans();
    }

    /** Sixty loans on a way of all points, the least one's number last on it. */
    private static void sixtyLoans() {
        Watched x = new Watched();
        x.variable(0, 1);
        x.begins(0, true);
        for (int v = 1; v < 16; v++) {
            x.variable(1, 1);
        }
        chain(x, 0, 149);
        for (int p = 149; p > 1; p--) {
            x.next(p, p - 1, true);
        }
        for (int i = 0; i < 60; i++) {
            due("lend", x.lend(149 - i, 1 + i % 15, i < 15 ? 0 : 1 + i % 15, i < 15 ? 0 : BEHIND), 1);
        }
        due("loans", x.count(1), 15);
        for (int i = 15; i < 60; i++) {
            due("lend", x.lend(149 - i, 1 + i % 15, 0, path(6, 1, 1 + i % 6)), 1);
        }
        due("loans", x.count(1), 60);
        x.act(80, GIVE, 0, 0);
        for (int v = 1; v < 16; v++) {
            x.act(70 - v, READ, v, BEHIND);
        }
        due("points", x.count(2), 150);
        due("judge", x.judge(), 4);
        due("point", x.fault(1), 80);
        due("the least of the loans", x.fault(2), 90);
        due("in force there", x.force(104, 80), 1);
        due("given anew since", x.force(105, 80), 0);
        due("clashing", x.count(5), 1);
    }

    private static void wrongInputs() {
        part = "wrong inputs change nothing";
        int[] odd = {Integer.MIN_VALUE, -150, -2, -1, 16, 150, 4096, Integer.MAX_VALUE};
        Watched x = usual();
        x.lend(0, 4, 0, 0);
        x.act(1, READ, 0, 0);
        x.act(2, READ, 4, BEHIND);
        chain(x, 0, 1, 2);
        for (int o : odd) {
            due("variable", x.variable(o, 1), NONE);
            due("variable", x.variable(0, o), NONE);
            due("begins", x.begins(o, false), NONE);
            due("act", x.act(1, o, 0, 0), NONE);
            due("act", x.act(1, READ, o, 0), NONE);
            due("lend", x.lend(1, o, 0, 0), NONE);
            due("lend", x.lend(1, 4, o, 0), NONE);
            due("copy", x.copy(1, o, 4), NONE);
            due("copy", x.copy(1, 4, o), NONE);
            due("held", x.held(0, o, 0), NONE);
            due("held", x.held(0, 0, o), NONE);
            due("holds", x.holds(0, o, 0), NONE);
            due("used", x.used(0, o), NONE);
            due("count", x.count(o), NONE);
            due("fault", x.fault(o), NONE);
            due("fault point", x.fault(1), 1);
            due("pairs", x.count(3), 1);
        }
    }

    public static void main(String[] args) {
        newObject();
        variable();
        begins();
        act();
        lend();
        copy();
        next();
        judgeUnheld();
        judgeClash();
        comes();
        held();
        holds();
        used();
        force();
        count();
        wrongInputs();
        System.out.println(wrong == 0 ? "all promises are kept" : wrong + " answers are not as due");
        if (wrong != 0) {
            System.exit(1);
        }
    }
}
