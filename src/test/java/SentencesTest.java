/** The sections 'Promise 1' to 'Promise 15', sentence by sentence; a case quotes what it sees to. */
public final class SentencesTest {
    private static final int NONE = Cases.NONE;
    private static final int NOTHING = Cases.NOTHING;
    private static final int READ = Cases.READ;
    private static final int MOVE = Cases.MOVE;
    private static final int GIVE = Cases.GIVE;
    private static final int CHANGE = Cases.CHANGE;
    private static final int LET = Cases.LET;
    private static final int END = Cases.END;
    private static final int BEHIND = Cases.BEHIND;
    private static final int PLAIN_ONE = Cases.PLAIN_ONE;
    private static final int PLAIN_THREE = Cases.PLAIN_THREE;
    private static final int SHARED_A = Cases.SHARED_A;
    private static final int SHARED_B = Cases.SHARED_B;
    private static final int SOLE_A = Cases.SOLE_A;
    private static final int SOLE_B = Cases.SOLE_B;

    private static final int PROMISES = 15;

    private static void due(String what, int got, int want) {
        Cases.due(what, got, want);
    }

    private static int path(int... digits) {
        return Cases.path(digits);
    }

    /** Point 1 lends, point 3 uses what has been lent, and from there a way comes back to point 2. */
    private static Watched ring(int to, int v, int path) {
        Watched x = Cases.variables();
        x.lend(1, to, v, path);
        x.act(3, READ, to, BEHIND);
        x.chain(0, 1, 2, 3, 4, 2);
        return x;
    }

    // ---- promise 1

    @Says("No variables; points without ACTS.")
    private static void promise1_noVariablesAndNoActs() {
        Watched x = new Watched();
        due("variables", x.count(0), 0);
        due("no variable 0", x.begins(0, true), NONE);
        due("the first one is 0", x.variable(0, 1), 0);
        x.variable(2, 1);
        x.begins(0, true);
        for (int p = 0; p < 149; p++) {
            x.next(p, p + 1, true);
        }
        for (int p = 0; p < 150; p++) {
            due("nothing takes it, at " + p, x.held(p, 0, 0), 1);
        }
        due("nothing gives", x.held(149, 1, 0), 0);
        due("nothing uses", x.used(0, 1), 0);
        due("no loans", x.count(1), 0);
        due("nothing is wanted", x.count(4), 0);
    }

    // ---- promise 2

    @Says("A new variable, sort 0: PLAIN of so many LEAVES, 1: a SHARED REFERENCE, 2: a SOLE one (leaves 1): its number.")
    private static void promise2_sortsAndLeaves() {
        Watched x = new Watched();
        due("plain of four", x.variable(0, 4), 0);
        due("its fourth leaf", x.held(0, 0, 3), 0);
        due("shared", x.variable(1, 1), 1);
        due("sole", x.variable(2, 1), 2);
        due("shared of four", x.variable(1, 4), NONE);
        due("sole of two", x.variable(2, 2), NONE);
        due("sole of none", x.variable(2, 0), NONE);
        due("no sort", x.variable(3, 1), NONE);
        due("no sort", x.variable(-1, 1), NONE);
        due("the next number", x.variable(2, 1), 3);
        due("0 is plain", x.lend(0, 0, 0, 1), NONE);
        due("1 is a shared one", x.copy(0, 1, 2), NONE);
        due("nothing is given through it", x.act(0, GIVE, 1, BEHIND), NONE);
        due("2 and 3 are sole ones", x.copy(0, 3, 2), 1);
        due("something is given through it", x.act(0, GIVE, 2, BEHIND), 1);
    }

    @Says("NONE if there are 16, too.")
    private static void promise2_sixteenAreAll() {
        Watched x = new Watched();
        for (int v = 0; v < 16; v++) {
            due("variable", x.variable(0, 1 + v % 4), v);
        }
        for (int sort = 0; sort <= 2; sort++) {
            due("one more", x.variable(sort, 1), NONE);
        }
        due("variables", x.count(0), 16);
        due("the last has its leaves", x.held(0, 15, 3), 0);
        due("none is behind it", x.held(0, 16, 0), NONE);
    }

    // ---- promise 3

    @Says("All LEAVES of a variable are GIVEN at the beginning, or not (at first not): 1.")
    private static void promise3_allLeavesOrNone() {
        Watched x = new Watched();
        x.variable(0, 4);
        x.variable(1, 1);
        x.chain(0, 1, 0);
        for (int round = 0; round < 3; round++) {
            for (int leaf = 0; leaf < 4; leaf++) {
                due("not given", x.held(1, 0, leaf), 0);
            }
            due("is", x.begins(0, true), 1);
            for (int leaf = 0; leaf < 4; leaf++) {
                due("given", x.held(1, 0, leaf), 1);
            }
            due("no other variable", x.held(1, 1, 0), 0);
            due("is not", x.begins(0, false), 1);
        }
        x.begins(0, true);
        x.act(1, LET, 0, 0);
        due("at the beginning, not each time at point 0", x.held(0, 0, 3), 2);
    }

    // ---- promise 4

    @Says("Point p has another ACT from now on:")
    private static void promise4_anotherActFromNowOn() {
        Watched x = Cases.variables();
        x.chain(0, 7, 8);
        int[][] takes = {{MOVE, 0, 0, 0}, {GIVE, 1, 1, 1}, {LET, 0, 0, 0}, {READ, 1, 1, 1}, {END, 1, 1, 1}, {MOVE, 0, 0, 0}};
        for (int[] row : takes) {
            due("act " + row[0], x.act(7, row[0], PLAIN_THREE, 0), 1);
            for (int leaf = 0; leaf < 3; leaf++) {
                due("act " + row[0] + ", leaf " + leaf, x.held(8, PLAIN_THREE, leaf), row[1 + leaf]);
            }
            due("ahead of it", x.held(7, PLAIN_THREE, 0), 1);
        }
        x.lend(7, SOLE_A, PLAIN_ONE, 0);
        due("LEND instead", x.held(8, PLAIN_THREE, 0), 1);
        x.act(7, MOVE, PLAIN_ONE, 0);
        due("no LEND any more", x.count(1), 0);
        due("its reference is not given", x.held(8, SOLE_A, 0), 0);
    }

    @Says({"0 nothing (v and path count for nothing),", "5 LET, 6 END of v (path counts for nothing): 1."})
    private static void promise4_whatCountsForNothing() {
        int[] any = {0, 3, 7, 8, -1, 4095, 4096, Integer.MIN_VALUE, Integer.MAX_VALUE};
        for (int odd : any) {
            Watched x = Cases.variables();
            x.chain(0, 1, 2);
            x.lend(0, SHARED_A, PLAIN_THREE, 2);
            x.act(2, READ, SHARED_A, BEHIND);
            due("nothing", x.act(1, NOTHING, odd, odd), 1);
            due("it is nothing", x.judge(), 0);
            due("LET", x.act(1, LET, PLAIN_THREE, odd), 1);
            due("it takes all", x.held(2, PLAIN_THREE, 0) + x.held(2, PLAIN_THREE, 1) + x.held(2, PLAIN_THREE, 2), 0);
            due("END", x.act(1, END, PLAIN_THREE, odd), 1);
            due("it is of the whole variable", x.fault(1), 1);
            due("END takes nothing", x.held(2, PLAIN_THREE, 0), 1);
            due("LET of no variable", x.act(1, LET, 6, odd), NONE);
            due("END of no variable", x.act(1, END, -1, odd), NONE);
        }
    }

    @Says("1 READ, 2 MOVE, 3 GIVE, 4 CHANGE of PLACE v, path;")
    private static void promise4_numbersOfActs() {
        // the number, what it wants, what is held behind it, and whether it clashes with a shared loan
        int[][] rows = {{0, 0, 1, 0}, {1, 1, 1, 0}, {2, 1, 0, 1}, {3, 0, 1, 1}, {4, 1, 1, 1}, {5, 0, 0, 0}, {6, 0, 1, 1}};
        for (int[] row : rows) {
            Watched x = ring(SHARED_A, PLAIN_ONE, 0);
            x.act(2, row[0], PLAIN_ONE, 0);
            x.next(4, 2, false);
            due("held behind " + row[0], x.held(3, PLAIN_ONE, 0), row[2]);
            due("clashes: " + row[0], x.count(5), row[3]);
            Watched y = Cases.variables();
            y.begins(PLAIN_ONE, false);
            due("act " + row[0], y.act(0, row[0], PLAIN_ONE, 0), 1);
            due("wants: " + row[0], y.count(4), row[1]);
            y.chain(0, 1);
            due("gives: " + row[0], y.held(1, PLAIN_ONE, 0), row[0] == 3 ? 1 : 0);
        }
        Watched z = Cases.variables();
        for (int act : new int[] {-1, 7, 8}) {
            due("no act " + act, z.act(0, act, PLAIN_ONE, 0), NONE);
        }
        due("a path counts", z.act(0, READ, PLAIN_THREE, 4), NONE);
        due("a variable counts", z.act(0, READ, 6, 0), NONE);
    }

    // ---- promise 5

    @Says("Point p has LEND to a REFERENCE of PLACE v, path: 1.")
    private static void promise5_lend() {
        Watched x = Cases.variables();
        x.chain(0, 5, 6, 7);
        due("LEND", x.lend(5, SHARED_A, PLAIN_THREE, path(2, 6)), 1);
        due("it gives", x.held(6, SHARED_A, 0), 1);
        due("it makes a loan", x.holds(6, SHARED_A, 5), 1);
        x.act(7, READ, SHARED_A, BEHIND);
        x.act(6, CHANGE, PLAIN_THREE, path(2, 6));
        due("of that place", x.fault(2), 5);
        x.act(6, CHANGE, PLAIN_THREE, path(2, 5));
        due("of no other", x.judge(), 0);
        due("LEND instead of LEND", x.lend(5, SOLE_A, PLAIN_THREE, path(2, 5)), 1);
        due("the first one is no longer given", x.held(6, SHARED_A, 0), 0);
        due("the other one is", x.held(6, SOLE_A, 0), 1);
        due("still one loan", x.count(1), 1);
        due("of no place", x.lend(5, SOLE_A, PLAIN_THREE, 4), NONE);
        due("to no reference", x.lend(5, PLAIN_ONE, PLAIN_THREE, 0), NONE);
        due("of a reference itself", x.lend(5, SHARED_A, SOLE_A, 0), NONE);
        due("at no point", x.lend(150, SHARED_A, PLAIN_ONE, 0), NONE);
        due("it stays", x.holds(6, SOLE_A, 5), 1);
    }

    @Says("NONE if 60 other points have LEND, too.")
    private static void promise5_sixtyOthers() {
        Watched x = Cases.variables();
        for (int p = 149; p > 90; p--) {
            due("LEND at " + p, x.lend(p, SHARED_A, PLAIN_ONE, 0), 1);
        }
        due("the 60th", x.lend(0, SHARED_A, SHARED_B, BEHIND), 1);
        due("60 others", x.lend(1, SHARED_A, PLAIN_ONE, 0), NONE);
        due("59 others", x.lend(149, SOLE_A, PLAIN_ONE, 0), 1);
        due("59 others", x.lend(0, SOLE_A, PLAIN_ONE, 0), 1);
        due("loans", x.count(1), 60);
        x.act(149, READ, PLAIN_ONE, 0);
        due("59 others", x.lend(1, SHARED_A, PLAIN_ONE, 0), 1);
        due("60 others", x.lend(149, SHARED_A, PLAIN_ONE, 0), NONE);
    }

    // ---- promise 6

    @Says("Point p has COPY (to and from are two): 1.")
    private static void promise6_copy() {
        Watched x = Cases.variables();
        x.chain(0, 5, 6);
        x.lend(0, SOLE_A, PLAIN_ONE, 0);
        due("COPY", x.copy(5, SOLE_B, SOLE_A), 1);
        due("what the other one held", x.holds(6, SOLE_B, 0), 1);
        due("the other one is taken", x.held(6, SOLE_A, 0), 0);
        due("and used", x.used(0, SOLE_A), 1);
        due("from itself", x.copy(5, SOLE_A, SOLE_A), NONE);
        due("from a shared one", x.copy(5, SOLE_A, SHARED_A), NONE);
        due("from a plain one", x.copy(5, SOLE_A, PLAIN_ONE), NONE);
        due("at no point", x.copy(-1, SOLE_A, SOLE_B), NONE);
        due("it stays", x.holds(6, SOLE_B, 0), 1);
        due("the other way round", x.copy(5, SOLE_A, SOLE_B), 1);
        due("wants the other one", x.fault(1), 5);
        due("gives anew", x.holds(6, SOLE_A, 0), 0);
    }

    // ---- promise 7

    @Says("Point q is NEXT to p, or not: 1.")
    private static void promise7_nextOrNot() {
        Watched x = Cases.variables();
        x.act(5, MOVE, PLAIN_ONE, 0);
        due("is", x.next(0, 5, true), 1);
        due("is", x.next(5, 9, true), 1);
        due("a way over 5", x.held(9, PLAIN_ONE, 0), 0);
        due("another way", x.next(0, 9, true), 1);
        due("two ways", x.held(9, PLAIN_ONE, 0), 2);
        due("is not", x.next(5, 9, false), 1);
        due("one way", x.held(9, PLAIN_ONE, 0), 1);
        due("is not", x.next(0, 9, false), 1);
        due("no way", x.held(9, PLAIN_ONE, 0), NONE);
        due("is, again", x.next(5, 9, true), 1);
        due("is, already", x.next(5, 9, true), 1);
        due("a way over 5 again", x.held(9, PLAIN_ONE, 0), 0);
        due("is not, at first", x.next(9, 0, false), 1);
        due("not the other way round", x.held(0, PLAIN_ONE, 0), 1);
        due("a way back", x.next(9, 0, true), 1);
        due("taken on it", x.held(0, PLAIN_ONE, 0), 2);
        due("once is enough", x.next(5, 9, false), 1);
        due("no way any more", x.comes(9), 0);
    }

    @Says("NONE if four others are, too.")
    private static void promise7_fourOthers() {
        Watched x = new Watched();
        for (int q : new int[] {149, 5, 0, 77}) {
            due("next " + q, x.next(0, q, true), 1);
        }
        due("four others", x.next(0, 78, true), NONE);
        due("no way comes to it", x.comes(78), 0);
        for (int q : new int[] {149, 5, 0, 77}) {
            due("three others", x.next(0, q, true), 1);
        }
        due("no such point", x.next(0, 150, true), NONE);
        due("no such point", x.next(-1, 0, true), NONE);
        x.next(0, 5, false);
        due("three others", x.next(0, 78, true), 1);
        due("four others", x.next(0, 5, true), NONE);
        due("ways", x.comes(149) + x.comes(77) + x.comes(78), 3);
        due("no way", x.comes(5), 0);
        due("four of another point", x.next(5, 78, true), 1);
    }

    // ---- promises 8 and 9

    @Says("The FAULT: 0, 3 or 4.")
    private static void promise8_theFault() {
        Watched x = ring(SHARED_A, PLAIN_ONE, 0);
        due("none", x.judge(), 0);
        x.act(4, CHANGE, PLAIN_ONE, 0);
        due("a loan in force on the way back", x.judge(), 4);
        x.act(4, MOVE, PLAIN_ONE, 0);
        due("a move that clashes, too", x.judge(), 3);
        due("it wants it again", x.fault(1), 4);
        x.act(2, GIVE, PLAIN_ONE, 0);
        due("given again, where it is lent", x.judge(), 4);
        due("there", x.fault(1), 2);
        x.act(3, NOTHING, 0, 0);
        due("not used any more", x.judge(), 0);
    }

    @Says("Of the FAULT that there is now, what 1: its point, 2: the other one.")
    private static void promise9_theFaultThatThereIsNow() {
        Watched x = ring(SHARED_A, PLAIN_ONE, 0);
        x.act(4, CHANGE, PLAIN_ONE, 0);
        due("fault 4", x.fault(1), 4);
        due("with the loan", x.fault(2), 1);
        x.act(2, LET, PLAIN_ONE, 0);
        due("fault 3 now", x.fault(1), 4);
        due("taken there", x.fault(2), 2);
        x.next(4, 2, false);
        due("no way back any more", x.fault(1), 4);
        x.act(4, NOTHING, 0, 0);
        due("no fault now", x.fault(1), NONE);
        x.act(2, CHANGE, PLAIN_ONE, 0);
        due("fault 4 elsewhere", x.fault(1), 2);
        due("with the loan", x.fault(2), 1);
        x.begins(PLAIN_ONE, false);
        due("fault 3 ahead of it", x.fault(1), 1);
        due("nobody took it", x.fault(2), NONE);
    }

    @Says("NONE without, or for another what.")
    private static void promise9_withoutAFaultOrAWhat() {
        Watched x = ring(SHARED_A, PLAIN_ONE, 0);
        for (int what = -2; what <= 5; what++) {
            due("without, what " + what, x.fault(what), NONE);
        }
        x.act(2, CHANGE, PLAIN_ONE, 0);
        for (int what = -2; what <= 5; what++) {
            due("what " + what, x.fault(what), what == 1 ? 2 : what == 2 ? 1 : NONE);
        }
        x.begins(PLAIN_ONE, false);
        for (int what = -2; what <= 5; what++) {
            due("fault 3, what " + what, x.fault(what), what == 1 ? 1 : NONE);
        }
    }

    // ---- promise 10

    @Says("Whether a WAY comes to a point: 1, 0.")
    private static void promise10_comes() {
        Watched x = new Watched();
        x.chain(0, 3, 6, 3);
        x.chain(6, 9, 149);
        x.chain(8, 9);
        for (int p = 0; p < 150; p++) {
            boolean comes = p == 0 || p == 3 || p == 6 || p == 9 || p == 149;
            due("point " + p, x.comes(p), comes ? 1 : 0);
        }
        due("no point", x.comes(-1), NONE);
        due("no point", x.comes(150), NONE);
        x.next(6, 9, false);
        due("cut off", x.comes(149), 0);
        x.next(0, 9, true);
        due("on another way", x.comes(149), 1);
        x.next(0, 3, false);
        due("a ring that no way comes to", x.comes(3) + x.comes(6), 0);
    }

    // ---- promise 11

    @Says("A LEAF of a variable at a point, ahead of its ACT: 1 HELD, 0 held on no way, 2 on some.")
    private static void promise11_onAllWaysOnSomeOnNone() {
        Watched x = Cases.variables();
        x.chain(0, 1, 2, 3, 4);
        x.next(1, 3, true);
        x.act(2, MOVE, PLAIN_THREE, 2);
        due("ahead of the act", x.held(2, PLAIN_THREE, 1), 1);
        due("where the ways meet", x.held(3, PLAIN_THREE, 1), 2);
        due("the other leaves", x.held(3, PLAIN_THREE, 0) + x.held(3, PLAIN_THREE, 2), 2);
        x.act(3, MOVE, PLAIN_THREE, 2);
        due("behind both", x.held(4, PLAIN_THREE, 1), 0);
        due("where they meet all the same", x.held(3, PLAIN_THREE, 1), 2);
        x.next(4, 1, true);
        due("on the way back", x.held(1, PLAIN_THREE, 1), 2);
        due("behind it", x.held(2, PLAIN_THREE, 1), 2);
        x.act(4, GIVE, PLAIN_THREE, 2);
        due("given on the way back", x.held(1, PLAIN_THREE, 1), 1);
        due("and behind it", x.held(2, PLAIN_THREE, 1), 1);
        due("never given", x.held(4, SOLE_A, 0), 0);
        x.lend(2, SOLE_A, PLAIN_ONE, 0);
        due("lent to on some ways", x.held(4, SOLE_A, 0), 2);
        due("on some ways, the way back too", x.held(1, SOLE_A, 0), 2);
        x.lend(0, SOLE_A, PLAIN_ONE, 0);
        due("on all", x.held(4, SOLE_A, 0), 1);
    }

    @Says("NONE if no way comes to the point, or there is no such LEAF, too.")
    private static void promise11_noWayOrNoLeaf() {
        Watched x = Cases.variables();
        x.chain(0, 1);
        x.act(5, GIVE, PLAIN_ONE, 0);
        x.chain(5, 6);
        due("no way", x.held(5, PLAIN_ONE, 0), NONE);
        due("no way behind it", x.held(6, PLAIN_ONE, 0), NONE);
        due("leaf 1 of one", x.held(1, PLAIN_ONE, 1), NONE);
        due("leaf 3 of three", x.held(1, PLAIN_THREE, 3), NONE);
        due("leaf -1", x.held(1, PLAIN_THREE, -1), NONE);
        due("leaf 1 of a reference", x.held(1, SOLE_A, 1), NONE);
        due("no variable", x.held(1, 6, 0), NONE);
        due("no point", x.held(150, PLAIN_ONE, 0), NONE);
        x.next(1, 5, true);
        due("a way", x.held(6, PLAIN_ONE, 0), 1);
    }

    // ---- promise 12

    @Says("Whether a REFERENCE HOLDS the LOAN of point l at a point, ahead of its ACT: 1, 0.")
    private static void promise12_holds() {
        Watched x = ring(SHARED_A, PLAIN_ONE, 0);
        int[] want = {0, 0, 1, 1, 1, 0};
        for (int p = 0; p < want.length; p++) {
            due("at " + p, x.holds(p, SHARED_A, 1), want[p]);
            due("no other one at " + p, x.holds(p, SHARED_B, 1), 0);
        }
        x.copy(4, SHARED_B, SHARED_A);
        due("ahead of the copy, in the second round", x.holds(4, SHARED_B, 1), 1);
        due("where the way comes back", x.holds(2, SHARED_B, 1), 1);
        due("ahead of the ring", x.holds(1, SHARED_B, 1), 0);
        x.act(2, LET, SHARED_B, 0);
        due("ahead of LET", x.holds(2, SHARED_B, 1), 1);
        due("behind LET", x.holds(3, SHARED_B, 1), 0);
        x.lend(2, SHARED_B, PLAIN_ONE, 0);
        due("another loan", x.holds(3, SHARED_B, 2), 1);
        due("instead of the first", x.holds(3, SHARED_B, 1), 0);
        due("held by none else", x.holds(3, SHARED_A, 2), 0);
    }

    @Says("NONE if point l makes none, or v is no REFERENCE, too.")
    private static void promise12_noLoanOrNoReference() {
        Watched x = ring(SHARED_A, PLAIN_ONE, 0);
        x.lend(2, SHARED_B, SHARED_A, BEHIND);
        due("no act", x.holds(3, SHARED_A, 0), NONE);
        due("LEND through a shared one", x.holds(3, SHARED_B, 2), NONE);
        due("READ", x.holds(3, SHARED_A, 3), NONE);
        due("no point", x.holds(3, SHARED_A, 150), NONE);
        due("at no point", x.holds(-1, SHARED_A, 1), NONE);
        due("a plain one", x.holds(3, PLAIN_ONE, 1), NONE);
        due("no variable", x.holds(3, 6, 1), NONE);
        due("what is right", x.holds(3, SHARED_B, 1), 1);
        due("where no way comes", x.holds(149, SHARED_B, 1), 0);
        x.act(1, GIVE, PLAIN_ONE, 0);
        due("no LEND any more", x.holds(3, SHARED_B, 1), NONE);
    }

    // ---- promise 13

    @Says("Whether a REFERENCE, as it is behind a point's ACT, is USED behind the point before it is given anew (by another"
            + " point, or by this one on a way back): 1, 0.")
    private static void promise13_usedByAnotherPoint() {
        Watched x = Cases.variables();
        x.chain(0, 1, 2, 3, 4);
        x.act(3, READ, SOLE_A, BEHIND);
        int[] want = {1, 1, 1, 0, 0};
        for (int p = 0; p < want.length; p++) {
            due("used behind " + p, x.used(p, SOLE_A), want[p]);
            due("no other one", x.used(p, SOLE_B), 0);
        }
        x.lend(1, SOLE_A, PLAIN_ONE, 0);
        due("given anew by another point", x.used(0, SOLE_A), 0);
        due("as it is behind the act", x.used(1, SOLE_A), 1);
        x.next(0, 2, true);
        due("not on each way", x.used(0, SOLE_A), 1);
        x.copy(2, SOLE_A, SOLE_B);
        due("on each way", x.used(0, SOLE_A), 0);
        due("behind the COPY", x.used(2, SOLE_A), 1);
        due("the COPY uses the other one", x.used(0, SOLE_B), 1);
        due("which it does not count itself", x.used(2, SOLE_B), 0);
        x.act(2, LET, SOLE_A, 0);
        due("LET, too", x.used(0, SOLE_A), 0);
        x.lend(2, SOLE_A, SOLE_A, BEHIND);
        due("used and then given anew", x.used(0, SOLE_A), 1);
        x.act(2, END, SOLE_A, 0);
        due("END gives nothing anew", x.used(0, SOLE_A), 1);
    }

    @Says("Whether a REFERENCE, as it is behind a point's ACT, is USED behind the point before it is given anew (by another"
            + " point, or by this one on a way back): 1, 0.")
    private static void promise13_usedByThisPointOnAWayBack() {
        Watched x = Cases.variables();
        x.chain(0, 1, 2, 3);
        x.act(2, READ, SOLE_A, BEHIND);
        due("no way back", x.used(2, SOLE_A), 0);
        x.next(3, 1, true);
        due("by this one on a way back", x.used(2, SOLE_A), 1);
        due("from where the way turns", x.used(3, SOLE_A), 1);
        x.act(1, LET, SOLE_A, 0);
        due("given anew on the way back", x.used(2, SOLE_A), 0);
        due("ahead of LET", x.used(3, SOLE_A), 0);
        due("behind LET", x.used(1, SOLE_A), 1);
        x.next(3, 2, true);
        due("on a shorter way back", x.used(2, SOLE_A), 1);
        x.lend(2, SOLE_A, SOLE_A, BEHIND);
        due("used by its own LEND on a way back", x.used(2, SOLE_A), 1);
        x.lend(2, SOLE_A, PLAIN_ONE, 0);
        due("given anew by this one on a way back", x.used(2, SOLE_A), 0);
        x.act(2, READ, SOLE_A, BEHIND);
        x.next(3, 1, false);
        x.next(3, 2, false);
        x.next(2, 2, true);
        due("next to itself", x.used(2, SOLE_A), 1);
    }

    @Says("0 at a point that no WAY comes to.")
    private static void promise13_whereNoWayComes() {
        Watched x = Cases.variables();
        x.act(2, READ, SOLE_A, BEHIND);
        x.chain(0, 2);
        x.chain(5, 2, 5);
        due("a way comes to it", x.used(5, SOLE_A), 1);
        x.next(2, 5, false);
        due("no way", x.used(5, SOLE_A), 0);
        due("the use is on a way", x.used(0, SOLE_A), 1);
        x.next(5, 5, true);
        x.act(5, READ, SOLE_A, BEHIND);
        due("its own use", x.used(5, SOLE_A), 0);
    }

    @Says("NONE if v is no REFERENCE, too.")
    private static void promise13_noReference() {
        Watched x = Cases.variables();
        for (int p : new int[] {0, 149}) {
            due("plain of one", x.used(p, PLAIN_ONE), NONE);
            due("plain of three", x.used(p, PLAIN_THREE), NONE);
            due("no variable", x.used(p, 6), NONE);
            due("no variable", x.used(p, -1), NONE);
            due("a reference", x.used(p, SHARED_A), 0);
        }
        due("no point", x.used(150, SHARED_A), NONE);
    }

    // ---- promise 14

    @Says("Whether the LOAN of point l is IN FORCE at a point: 1, 0.")
    private static void promise14_force() {
        Watched x = ring(SHARED_A, PLAIN_ONE, 0);
        int[] want = {0, 0, 1, 1, 1, 0};
        for (int p = 0; p < want.length; p++) {
            due("at " + p, x.force(1, p), want[p]);
        }
        x.next(4, 2, false);
        due("ahead of the use", x.force(1, 2), 1);
        due("at the last use", x.force(1, 3), 0);
        due("behind it", x.force(1, 4), 0);
        x.lend(2, SHARED_B, PLAIN_ONE, 0);
        due("held, but not used", x.force(2, 3), 0);
        x.act(4, READ, SHARED_B, BEHIND);
        due("used behind", x.force(2, 3), 1);
        due("each for itself", x.force(1, 3), 0);
    }

    @Says("NONE if it makes none, too.")
    private static void promise14_noLoan() {
        Watched x = ring(SHARED_A, PLAIN_ONE, 0);
        x.lend(2, SHARED_B, SHARED_A, BEHIND);
        due("no act", x.force(0, 2), NONE);
        due("LEND through a shared one", x.force(2, 3), NONE);
        due("READ", x.force(3, 2), NONE);
        due("no point", x.force(-1, 2), NONE);
        due("at no point", x.force(1, 150), NONE);
        due("a loan", x.force(1, 3), 1);
        due("where no way comes", x.force(1, 149), 0);
        x.lend(149, SHARED_B, PLAIN_ONE, 0);
        due("the loan of a point that no way comes to", x.force(149, 2), 0);
    }

    // ---- promise 15

    @Says("What 0: variables, 1: LOANS, 2: points that a WAY comes to, 3: pairs of a LOAN and a point at which it is IN"
            + " FORCE, 4: points that WANT a LEAF that is not HELD, 5: points that clash (whatever FAULT there is).")
    private static void promise15_counts() {
        Watched x = ring(SHARED_A, PLAIN_ONE, 0);
        int[] first = {6, 1, 5, 3, 0, 0};
        for (int what = 0; what <= 5; what++) {
            due("at first, count " + what, x.count(what), first[what]);
        }
        x.variable(0, 2);
        x.lend(2, SHARED_B, PLAIN_ONE, 0);
        x.lend(149, SHARED_B, PLAIN_ONE, 0);
        x.act(4, CHANGE, PLAIN_ONE, 0);
        x.act(5, READ, SHARED_B, BEHIND);
        x.act(6, END, PLAIN_ONE, 0);
        x.chain(4, 6, 5);
        // loan 1 is in force at 2, 3, 4; loan 2 at 3, 4, 6, as point 2 gives it anew
        int[] then = {7, 3, 7, 6, 0, 2};
        for (int what = 0; what <= 5; what++) {
            due("then, count " + what, x.count(what), then[what]);
        }
        x.begins(PLAIN_ONE, false);
        due("points 1, 2 and 4 want it", x.count(4), 3);
        due("two clash all the same", x.count(5), 2);
        due("fault 3", x.judge(), 3);
        x.act(0, GIVE, PLAIN_ONE, 0);
        due("no point wants it", x.count(4), 0);
        due("fault 4", x.judge(), 4);
        x.next(4, 6, false);
        due("points", x.count(2), 5);
        due("loan 2 is not used any more", x.count(3), 3);
        due("clashing", x.count(5), 1);
    }

    @Says("NONE for another what.")
    private static void promise15_noOtherCount() {
        Watched x = ring(SHARED_A, PLAIN_ONE, 0);
        for (int what : new int[] {-1, -2, 6, 7, Integer.MIN_VALUE, Integer.MAX_VALUE}) {
            due("count " + what, x.count(what), NONE);
        }
    }

    public static void main(String[] args) throws Exception {
        for (int n = 1; n <= PROMISES; n++) {
            Sentences.areAllQuoted("Promise " + n + ":", SentencesTest.class, "promise" + n + "_");
        }
        Cases.run(SentencesTest.class);
    }
}
