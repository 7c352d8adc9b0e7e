/** The boundary cases of promises 8 to 15, the calls that ask; one method for each case. */
public final class AskingBoundaryTest {
    private static final int NONE = Cases.NONE;
    private static final int NOTHING = Cases.NOTHING;
    private static final int READ = Cases.READ;
    private static final int MOVE = Cases.MOVE;
    private static final int GIVE = Cases.GIVE;
    private static final int CHANGE = Cases.CHANGE;
    private static final int LET = Cases.LET;
    private static final int END = Cases.END;
    private static final int BEHIND = Cases.BEHIND;
    private static final int MIN = Cases.MIN;
    private static final int MAX = Cases.MAX;
    private static final int PLAIN_ONE = Cases.PLAIN_ONE;
    private static final int PLAIN_THREE = Cases.PLAIN_THREE;
    private static final int SHARED_A = Cases.SHARED_A;
    private static final int SHARED_B = Cases.SHARED_B;
    private static final int SOLE_A = Cases.SOLE_A;
    private static final int SOLE_B = Cases.SOLE_B;

    private static final int[] NO_POINTS = {-1, 150, -150, 151, MIN, MAX};
    private static final int[] NO_VARIABLES = {-1, Cases.USUAL_VARIABLES, 15, 16, 17, MIN, MAX};

    private static void due(String what, int got, int want) {
        Cases.due(what, got, want);
    }

    private static int path(int... digits) {
        return Cases.path(digits);
    }

    /** Point 0 lends to a reference, point 1 has no act yet, point 2 reads behind the reference. */
    private static Watched lentAndRead(int to, int v, int path) {
        Watched x = Cases.variables();
        x.begins(SOLE_B, true);
        x.lend(0, to, v, path);
        x.act(2, READ, to, BEHIND);
        x.chain(0, 1, 2);
        return x;
    }

    // ---- promise 8: judge

    private static void promise8_noFault() {
        due("a new object", new Watched().judge(), 0);
        Watched x = lentAndRead(SHARED_A, PLAIN_ONE, 0);
        due("lent and read", x.judge(), 0);
        x.act(1, READ, PLAIN_ONE, 0);
        due("read in between", x.judge(), 0);
    }

    private static void promise8_fault3AtPoint0AndAtPoint149() {
        Watched x = Cases.variables();
        x.begins(PLAIN_ONE, false);
        x.act(0, READ, PLAIN_ONE, 0);
        due("at 0", x.judge(), 3);
        x.act(0, NOTHING, 0, 0);
        x.act(149, READ, PLAIN_ONE, 0);
        due("no way comes to 149", x.judge(), 0);
        x.chain(0, 149);
        due("at 149", x.judge(), 3);
    }

    private static void promise8_whatEachActWants() {
        int[][] rows = {{READ, 0, 3}, {READ, 6, 3}, {MOVE, 0, 3}, {CHANGE, 0, 3}, {CHANGE, 1, 3}, {GIVE, 0, 0},
            {GIVE, 1, 3}, {LET, 0, 0}, {END, 0, 0}, {NOTHING, 0, 0}};
        for (int[] row : rows) {
            Watched x = Cases.variables();
            x.begins(PLAIN_ONE, false);
            x.act(0, row[0], PLAIN_ONE, row[1]);
            due("act " + row[0] + ", path " + row[1], x.judge(), row[2]);
        }
        Watched y = Cases.variables();
        y.begins(PLAIN_ONE, false);
        y.lend(0, SHARED_A, PLAIN_ONE, 0);
        due("lend", y.judge(), 3);
        y.copy(0, SHARED_A, SHARED_B);
        due("copy", y.judge(), 3);
    }

    private static void promise8_whatActsOnOneOfSeveralLeavesWant() {
        int[][] rows = {{READ, 0, 3}, {READ, 1, 0}, {READ, 2, 3}, {READ, path(2, 1), 3}, {READ, path(1, 1), 0},
            {MOVE, 0, 3}, {MOVE, 2, 3}, {MOVE, 3, 0}, {CHANGE, 2, 3}, {CHANGE, 3, 0}, {GIVE, 0, 0}, {GIVE, 2, 0},
            {GIVE, path(2, 6), 3}, {GIVE, path(3, 6), 0}};
        for (int[] row : rows) {
            Watched x = Cases.variables();
            x.act(0, MOVE, PLAIN_THREE, 2);
            x.act(1, row[0], PLAIN_THREE, row[1]);
            x.chain(0, 1);
            due("act " + row[0] + ", path " + row[1], x.judge(), row[2]);
        }
    }

    private static void promise8_aPointThatNoWayComesToBreaksNothing() {
        Watched x = lentAndRead(SOLE_A, PLAIN_ONE, 0);
        x.act(8, READ, SHARED_B, BEHIND);
        x.act(9, MOVE, PLAIN_ONE, 0);
        x.chain(8, 9, 2);
        due("no fault", x.judge(), 0);
        due("nothing unheld", x.count(4), 0);
        due("nothing clashes", x.count(5), 0);
        x.next(1, 9, true);
        due("a way comes to 9", x.judge(), 4);
        x.next(1, 8, true);
        due("a way comes to 8", x.judge(), 3);
    }

    private static void promise8_fault3GoesAheadOfFault4() {
        Watched x = lentAndRead(SHARED_A, PLAIN_ONE, 0);
        x.act(1, CHANGE, PLAIN_ONE, 0);
        due("fault 4", x.judge(), 4);
        due("at 1", x.fault(1), 1);
        x.act(149, READ, SHARED_B, BEHIND);
        x.chain(2, 149);
        due("fault 3, though its point is greater", x.judge(), 3);
        due("at 149", x.fault(1), 149);
        due("there is a clash all the same", x.count(5), 1);
        x.begins(SHARED_B, true);
        due("fault 4 again", x.judge(), 4);
    }

    private static void promise8_aWayBackToItsOwnPoint() {
        Watched x = Cases.variables();
        x.act(0, MOVE, PLAIN_THREE, 1);
        due("once", x.judge(), 0);
        x.next(0, 0, true);
        due("again and again", x.judge(), 3);
        Watched y = Cases.variables();
        y.begins(SOLE_A, true);
        y.lend(1, SOLE_B, SOLE_A, BEHIND);
        y.act(2, READ, SOLE_B, BEHIND);
        y.chain(0, 1, 2, 1);
        due("given anew each time", y.judge(), 0);
        y.copy(2, SOLE_A, SOLE_B);
        due("the loan goes with the one it goes through", y.judge(), 0);
    }

    private static void promise8_whereOnePathBeginsWithTheOther() {
        int[][] rows = {
            {0, 0, 4}, {0, path(1, 2, 3, 4), 4}, {path(1, 2, 3, 4), 0, 4}, {path(1, 2, 3, 4), path(1, 2, 3, 4), 4},
            {path(1, 2, 3), path(1, 2, 3, 4), 4}, {path(1, 2, 3, 4), path(1, 2, 3), 4}, {1, path(1, 6), 4},
            {path(1, 2, 3, 4), path(1, 2, 3, 5), 0}, {path(1, 2, 3), path(1, 2, 4, 3), 0}, {1, 2, 0},
            {path(1, 6), path(6, 1), 0}, {path(1, 1), path(2, 1), 0}, {6, path(6, 6), 4}, {path(2, 1), 1, 0}};
        for (int[] row : rows) {
            Watched x = lentAndRead(SOLE_A, PLAIN_ONE, row[0]);
            x.act(1, READ, PLAIN_ONE, row[1]);
            due("lent " + row[0] + ", read " + row[1], x.judge(), row[2]);
        }
    }

    private static void promise8_readAndLendToASharedOneClashWithSoleLoansOnly() {
        for (int to : new int[] {SHARED_A, SOLE_A}) {
            int soleOnly = to == SOLE_A ? 4 : 0;
            Watched x = lentAndRead(to, PLAIN_ONE, 0);
            x.act(1, READ, PLAIN_ONE, 0);
            due("READ", x.judge(), soleOnly);
            x.lend(1, SHARED_B, PLAIN_ONE, 0);
            due("LEND to a shared one", x.judge(), soleOnly);
            x.lend(1, SOLE_B, PLAIN_ONE, 0);
            due("LEND to a sole one", x.judge(), 4);
            for (int act : new int[] {MOVE, GIVE, CHANGE, END}) {
                x.act(1, act, PLAIN_ONE, 0);
                due("act " + act, x.judge(), 4);
            }
            for (int act : new int[] {NOTHING, LET}) {
                x.act(1, act, PLAIN_ONE, 0);
                due("act " + act, x.judge(), 0);
            }
        }
    }

    private static void promise8_endOfAReferenceClashesWithNone() {
        Watched x = lentAndRead(SHARED_A, SOLE_B, BEHIND);
        x.act(1, END, SOLE_B, 0);
        due("in force", x.force(0, 1), 1);
        due("END", x.judge(), 0);
        x.act(1, GIVE, SOLE_B, BEHIND);
        due("GIVE", x.judge(), 4);
    }

    private static void promise8_copyFromASoleOneIsLikeAMove() {
        for (int path : new int[] {BEHIND, path(BEHIND, 1, 2, 3)}) {
            Watched x = lentAndRead(SHARED_A, SOLE_B, path);
            x.copy(1, SOLE_A, SOLE_B);
            due("from it", x.judge(), 4);
            x.begins(SOLE_A, true);
            x.copy(1, SOLE_B, SOLE_A);
            due("to it", x.judge(), 0);
        }
    }

    // ---- promise 9: fault

    private static void promise9_whatBelow1AndAbove2() {
        for (int what : new int[] {0, 3, -1, 4, MIN, MAX}) {
            Cases.refused("fault " + what, x -> x.fault(what));
        }
        Watched x = lentAndRead(SOLE_A, PLAIN_ONE, 0);
        x.act(1, READ, PLAIN_ONE, 0);
        due("fault 1", x.fault(1), 1);
        due("fault 2", x.fault(2), 0);
        due("fault 0", x.fault(0), NONE);
        due("fault 3", x.fault(3), NONE);
        due("fault 4", x.fault(4), NONE);
    }

    private static void promise9_withoutAFault() {
        Watched x = lentAndRead(SHARED_A, PLAIN_ONE, 0);
        due("fault 1", x.fault(1), NONE);
        due("fault 2", x.fault(2), NONE);
    }

    private static void promise9_theFaultThatThereIsNow() {
        Watched x = lentAndRead(SHARED_A, PLAIN_ONE, 0);
        x.act(1, MOVE, PLAIN_ONE, 0);
        due("without judge", x.fault(1), 1);
        x.act(1, NOTHING, 0, 0);
        due("mended", x.fault(1), NONE);
        x.begins(PLAIN_ONE, false);
        due("another one", x.fault(1), 0);
        due("its other point", x.fault(2), NONE);
        x.begins(PLAIN_ONE, true);
        x.act(149, CHANGE, PLAIN_ONE, 0);
        x.next(0, 149, true);
        x.next(149, 1, true);
        due("a new way", x.fault(1), 149);
        x.next(149, 1, false);
        due("a way less", x.fault(1), NONE);
    }

    private static void promise9_theLeastOfSeveralPoints() {
        Watched x = Cases.variables();
        x.chain(0, 149, 1, 75);
        for (int p : new int[] {149, 75, 1}) {
            x.act(p, READ, SHARED_A, BEHIND);
            due("the least one till now", x.fault(1), p);
        }
        due("unheld", x.count(4), 3);
    }

    private static void promise9_nobodyTookTheLeaf() {
        Watched x = Cases.variables();
        x.act(0, READ, SOLE_A, BEHIND);
        due("the point", x.fault(1), 0);
        due("never given", x.fault(2), NONE);
        x.act(149, LET, SOLE_A, 0);
        x.chain(0, 149);
        due("taken behind it", x.fault(2), NONE);
        x.next(149, 0, true);
        due("a way back", x.fault(2), 149);
    }

    private static void promise9_theLeastOfSeveralTakers() {
        Watched x = Cases.variables();
        x.act(149, LET, PLAIN_ONE, 0);
        x.act(3, LET, PLAIN_ONE, 0);
        x.act(4, LET, PLAIN_ONE, 0);
        x.act(2, READ, PLAIN_ONE, 0);
        x.chain(0, 149, 4, 2);
        due("two on one way", x.fault(2), 4);
        x.chain(0, 3, 2);
        due("a lesser one on another way", x.fault(2), 3);
        x.act(4, GIVE, PLAIN_ONE, 0);
        x.act(3, NOTHING, 0, 0);
        due("given on one way", x.judge(), 0);
        x.next(149, 2, true);
        due("past the giver", x.fault(2), 149);
    }

    private static void promise9_aTakerFromWhichItIsGivenOnEachWay() {
        Watched x = Cases.variables();
        x.begins(PLAIN_ONE, false);
        x.act(1, LET, PLAIN_ONE, 0);
        x.act(2, GIVE, PLAIN_ONE, 0);
        x.act(3, READ, PLAIN_ONE, 0);
        x.chain(0, 1, 2, 3);
        due("given", x.judge(), 0);
        x.next(0, 3, true);
        due("not on the other way", x.fault(1), 3);
        due("which nobody took it on", x.fault(2), NONE);
    }

    private static void promise9_aTakerThatNoWayComesTo() {
        Watched x = Cases.variables();
        x.begins(PLAIN_ONE, false);
        x.act(1, LET, PLAIN_ONE, 0);
        x.act(2, READ, PLAIN_ONE, 0);
        x.chain(1, 2);
        x.next(0, 2, true);
        due("no way begins at it", x.fault(2), NONE);
        x.next(0, 1, true);
        due("a way comes to it", x.fault(2), 1);
    }

    private static void promise9_thePointThatTookItItselfOnAWayBack() {
        Watched x = Cases.variables();
        x.act(0, MOVE, PLAIN_ONE, 0);
        x.next(0, 0, true);
        due("the point", x.fault(1), 0);
        due("itself", x.fault(2), 0);
        Watched y = Cases.variables();
        y.act(5, MOVE, PLAIN_ONE, 0);
        y.act(3, GIVE, PLAIN_ONE, 0);
        y.chain(0, 5, 3, 5);
        due("given on the way back", y.judge(), 0);
        y.act(3, GIVE, PLAIN_ONE, 1);
        due("giving within wants it", y.fault(1), 3);
        due("taken ahead of it", y.fault(2), 5);
    }

    private static void promise9_theFirstOfSeveralLeaves() {
        Watched x = Cases.variables();
        x.act(1, MOVE, PLAIN_THREE, 3);
        x.act(2, MOVE, PLAIN_THREE, 2);
        x.act(3, READ, PLAIN_THREE, 0);
        x.chain(0, 1, 2, 3);
        due("who took the second", x.fault(2), 2);
        x.act(2, NOTHING, 0, 0);
        due("who took the third", x.fault(2), 1);
        x.act(2, LET, PLAIN_THREE, 0);
        due("who took the first", x.fault(2), 2);
        x.begins(PLAIN_THREE, false);
        x.act(2, NOTHING, 0, 0);
        due("nobody took the first", x.fault(2), NONE);
    }

    private static void promise9_eachTakerAndNone() {
        Watched x = Cases.variables();
        x.begins(SOLE_A, true);
        x.begins(SHARED_A, true);
        x.chain(0, 1, 2);
        x.copy(1, SOLE_B, SOLE_A);
        x.act(2, READ, SOLE_A, BEHIND);
        due("COPY from a sole one", x.fault(2), 1);
        x.act(1, LET, SOLE_A, 0);
        due("LET of a reference", x.fault(2), 1);
        x.act(1, END, SOLE_A, 0);
        due("END takes nothing", x.judge(), 0);
        x.copy(1, SHARED_B, SHARED_A);
        x.act(2, READ, SHARED_A, BEHIND);
        due("COPY from a shared one takes nothing", x.judge(), 0);
    }

    private static void promise9_theLeastOfSeveralLoans() {
        Watched x = Cases.variables();
        x.lend(149, SHARED_A, PLAIN_ONE, 0);
        x.lend(7, SHARED_B, PLAIN_ONE, 6);
        x.act(3, MOVE, PLAIN_ONE, 0);
        x.act(4, READ, SHARED_A, BEHIND);
        x.act(5, READ, SHARED_B, BEHIND);
        x.chain(0, 149, 7, 3, 4, 5);
        due("the point", x.fault(1), 3);
        due("the least loan", x.fault(2), 7);
        x.act(5, NOTHING, 0, 0);
        due("the one that is in force", x.fault(2), 149);
        x.act(5, READ, SHARED_B, BEHIND);
        x.lend(7, SHARED_B, PLAIN_THREE, 0);
        due("the one of the same variable", x.fault(2), 149);
    }

    // ---- promise 10: comes

    private static void promise10_pointsMinus1And0And149And150() {
        for (int p : NO_POINTS) {
            Cases.refused("comes " + p, x -> x.comes(p));
        }
        Watched x = new Watched();
        due("0", x.comes(0), 1);
        due("149", x.comes(149), 0);
        x.next(0, 149, true);
        due("149 is next", x.comes(149), 1);
    }

    private static void promise10_aPointThatNoWayComesTo() {
        Watched x = new Watched();
        x.chain(1, 2, 1);
        x.next(1, 0, true);
        due("point 1", x.comes(1), 0);
        due("point 2", x.comes(2), 0);
        due("points", x.count(2), 1);
        x.next(0, 2, true);
        due("point 1", x.comes(1), 1);
        due("point 2", x.comes(2), 1);
    }

    private static void promise10_aWayThatComesBack() {
        Watched x = new Watched();
        x.chain(0, 1, 2, 0);
        x.next(2, 2, true);
        for (int p = 0; p <= 3; p++) {
            due("point " + p, x.comes(p), p == 3 ? 0 : 1);
        }
        x.next(0, 1, false);
        due("cut off", x.comes(2), 0);
        due("point 0 all the same", x.comes(0), 1);
    }

    private static void promise10_aWayOverAllPoints() {
        Watched x = new Watched();
        x.next(0, 149, true);
        for (int p = 149; p > 1; p--) {
            x.next(p, p - 1, true);
        }
        for (int p = 0; p < 150; p++) {
            due("point " + p, x.comes(p), 1);
        }
        due("points", x.count(2), 150);
    }

    private static void promise10_asManyNextAsTheCallsLeaveRoomFor() {
        Watched x = new Watched();
        for (int p = 0; p < 125; p++) {
            x.next(p, 149 - p, true);
            x.next(p, p, true);
            x.next(p, 0, true);
            x.next(p, p + 1, true);
        }
        due("points", x.count(2), 150);
        due("the last one", x.comes(149), 1);
        due("one in the middle", x.comes(75), 1);
    }

    // ---- promise 11: held

    private static void promise11_pointsMinus1And0And149And150() {
        for (int p : NO_POINTS) {
            Cases.refused("held at " + p, x -> x.held(p, PLAIN_ONE, 0));
        }
        Watched x = Cases.variables();
        due("at 0", x.held(0, PLAIN_ONE, 0), 1);
        due("at 149, where no way comes", x.held(149, PLAIN_ONE, 0), NONE);
        x.next(0, 149, true);
        due("at 149", x.held(149, PLAIN_ONE, 0), 1);
    }

    private static void promise11_noSuchVariable() {
        for (int v : NO_VARIABLES) {
            Cases.refused("held of " + v, x -> x.held(0, v, 0));
        }
    }

    private static void promise11_theVariableBehindThe16th() {
        Cases.refusedOnFull("held of 16", x -> x.held(0, 16, 0));
        Cases.refusedOnFull("held of -1", x -> x.held(0, -1, 0));
        due("the 16th", Cases.full().held(0, 15, 0), 0);
    }

    private static void promise11_leavesBelow0AndBehindTheLast() {
        int[] leaves = {1, 3, 1, 1, 1, 1};
        for (int v = 0; v < Cases.USUAL_VARIABLES; v++) {
            int of = v;
            for (int leaf : new int[] {-1, leaves[v], 4, MIN, MAX}) {
                Cases.refused("leaf " + leaf + " of " + v, x -> x.held(0, of, leaf));
            }
            due("the first one", Cases.usual().held(0, v, 0) == NONE ? 0 : 1, 1);
            due("the last one", Cases.usual().held(0, v, leaves[v] - 1) == NONE ? 0 : 1, 1);
        }
    }

    private static void promise11_onNoWayAndOnSomeAndOnAll() {
        Watched x = Cases.variables();
        x.act(1, MOVE, PLAIN_THREE, 2);
        x.act(2, LET, PLAIN_THREE, 0);
        x.act(3, GIVE, PLAIN_THREE, 3);
        x.chain(0, 1, 4);
        x.chain(0, 2, 3, 4);
        due("on some", x.held(4, PLAIN_THREE, 0), 2);
        due("on none", x.held(4, PLAIN_THREE, 1), 0);
        due("on all", x.held(4, PLAIN_THREE, 2), 1);
    }

    private static void promise11_aheadOfThePointsOwnAct() {
        Watched x = Cases.variables();
        x.act(0, MOVE, PLAIN_ONE, 0);
        due("ahead of MOVE", x.held(0, PLAIN_ONE, 0), 1);
        x.next(0, 1, true);
        x.act(1, GIVE, PLAIN_ONE, 0);
        due("ahead of GIVE", x.held(1, PLAIN_ONE, 0), 0);
        x.next(1, 2, true);
        due("behind GIVE", x.held(2, PLAIN_ONE, 0), 1);
        x.lend(2, SOLE_A, PLAIN_ONE, 0);
        due("ahead of LEND", x.held(2, SOLE_A, 0), 0);
    }

    private static void promise11_aWayBackToItsOwnPoint() {
        Watched x = Cases.variables();
        x.act(0, LET, PLAIN_ONE, 0);
        x.next(0, 0, true);
        due("at the beginning only", x.held(0, PLAIN_ONE, 0), 2);
        x.act(0, GIVE, SOLE_A, BEHIND);
        due("giving behind gives nothing", x.held(0, SOLE_A, 0), 0);
        x.lend(0, SOLE_A, PLAIN_ONE, 0);
        due("lent on the way back", x.held(0, SOLE_A, 0), 2);
    }

    private static void promise11_givenByEachActOrNot() {
        int[][] rows = {{GIVE, 0, 1, 1, 1}, {GIVE, 1, 1, 0, 0}, {GIVE, 3, 0, 0, 1}, {GIVE, path(1, 1), 0, 0, 0},
            {GIVE, path(3, 6, 6, 6), 0, 0, 0}, {CHANGE, 0, 0, 0, 0}, {READ, 0, 0, 0, 0}, {END, 0, 0, 0, 0}};
        for (int[] row : rows) {
            Watched x = Cases.variables();
            x.begins(PLAIN_THREE, false);
            due("act", x.act(0, row[0], PLAIN_THREE, row[1]), 1);
            x.next(0, 1, true);
            for (int leaf = 0; leaf < 3; leaf++) {
                due("act " + row[0] + ", path " + row[1] + ", leaf " + leaf, x.held(1, PLAIN_THREE, leaf), row[2 + leaf]);
            }
        }
    }

    private static void promise11_waysFromPointsThatNoWayComesTo() {
        Watched x = Cases.variables();
        x.act(5, LET, PLAIN_ONE, 0);
        x.lend(6, SOLE_A, PLAIN_ONE, 0);
        x.next(0, 1, true);
        x.chain(6, 5, 1);
        due("taken on no way", x.held(1, PLAIN_ONE, 0), 1);
        due("given on no way", x.held(1, SOLE_A, 0), 0);
    }

    // ---- promise 12: holds

    private static void promise12_pointsMinus1And0And149And150() {
        for (int p : NO_POINTS) {
            Cases.refused("holds at " + p, x -> x.holds(p, SOLE_A, 0));
            Cases.refused("the loan of " + p, x -> x.holds(1, SOLE_A, p));
        }
        Watched x = Cases.variables();
        x.lend(149, SOLE_A, PLAIN_ONE, 0);
        x.chain(0, 149, 1);
        due("at 0", x.holds(0, SOLE_A, 149), 0);
        due("at 149", x.holds(149, SOLE_A, 149), 0);
        due("behind 149", x.holds(1, SOLE_A, 149), 1);
        x.next(1, 0, true);
        due("at 0 on a way back", x.holds(0, SOLE_A, 149), 1);
        due("at 149 on a way back", x.holds(149, SOLE_A, 149), 1);
    }

    private static void promise12_noReference() {
        for (int v : NO_VARIABLES) {
            Cases.refused("holds of " + v, x -> x.holds(1, v, 0));
        }
        Cases.refused("a plain one", x -> x.holds(1, PLAIN_ONE, 0));
        Cases.refused("a plain one of three", x -> x.holds(1, PLAIN_THREE, 0));
    }

    private static void promise12_theVariableBehindThe16th() {
        Cases.refusedOnFull("holds of 16", x -> x.holds(1, 16, 0));
        Cases.refusedOnFull("holds of -1", x -> x.holds(1, -1, 0));
        due("the 16th", Cases.full().holds(1, 15, 0), 0);
    }

    private static void promise12_aPointThatMakesNoLoan() {
        for (int l : new int[] {3, 4, 5, 6, 7, 8, 9, 149}) {
            Cases.refused("the loan of " + l, x -> x.holds(1, SOLE_A, l));
        }
        Watched x = Cases.variables();
        x.lend(0, SHARED_A, SHARED_B, BEHIND);
        due("LEND through a shared one", x.holds(0, SHARED_A, 0), NONE);
        x.lend(0, SHARED_A, SOLE_A, BEHIND);
        due("LEND through a sole one", x.holds(0, SHARED_A, 0), 0);
        x.act(0, NOTHING, 0, 0);
        due("no LEND any more", x.holds(0, SHARED_A, 0), NONE);
    }

    private static void promise12_aPointThatNoWayComesTo() {
        Watched x = Cases.variables();
        x.lend(5, SOLE_A, PLAIN_ONE, 0);
        x.chain(5, 6, 1);
        x.next(0, 1, true);
        due("it holds nothing", x.holds(6, SOLE_A, 5), 0);
        due("and hands on nothing", x.holds(1, SOLE_A, 5), 0);
        x.lend(0, SOLE_B, PLAIN_ONE, 0);
        due("a loan of a point that a way comes to", x.holds(6, SOLE_B, 0), 0);
        x.next(0, 5, true);
        due("a way comes to it", x.holds(6, SOLE_A, 5), 1);
        due("and on", x.holds(1, SOLE_A, 5), 1);
    }

    private static void promise12_tillItIsGivenAnew() {
        for (int act : new int[] {NOTHING, END}) {
            Watched x = lentAndRead(SOLE_A, PLAIN_ONE, 0);
            x.act(1, act, SOLE_A, 0);
            due("act " + act, x.holds(2, SOLE_A, 0), 1);
        }
        Watched x = lentAndRead(SOLE_A, PLAIN_ONE, 0);
        x.act(1, LET, SOLE_A, 0);
        due("LET", x.holds(2, SOLE_A, 0), 0);
        due("LET, ahead of it", x.holds(1, SOLE_A, 0), 1);
        x.lend(1, SOLE_A, PLAIN_THREE, 0);
        due("LEND", x.holds(2, SOLE_A, 0), 0);
        due("the new one", x.holds(2, SOLE_A, 1), 1);
        x.copy(1, SOLE_A, SOLE_B);
        due("COPY to it", x.holds(2, SOLE_A, 0), 0);
        x.copy(1, SOLE_B, SOLE_A);
        due("it stays when it is taken by COPY", x.holds(2, SOLE_A, 0), 1);
        due("and is copied", x.holds(2, SOLE_B, 0), 1);
        x.next(0, 2, true);
        x.act(1, LET, SOLE_A, 0);
        due("on some way", x.holds(2, SOLE_A, 0), 1);
    }

    private static void promise12_lentThroughItself() {
        Watched x = lentAndRead(SOLE_A, PLAIN_ONE, 0);
        x.lend(1, SOLE_A, SOLE_A, BEHIND);
        due("what it held stays", x.holds(2, SOLE_A, 0), 1);
        due("the loan through it goes, also from it", x.holds(2, SOLE_A, 1), 0);
        Watched y = lentAndRead(SHARED_A, PLAIN_ONE, 0);
        y.lend(1, SHARED_A, SHARED_A, BEHIND);
        due("what it held stays", y.holds(2, SHARED_A, 0), 1);
    }

    private static void promise12_loansThroughOneThatIsGivenAnew() {
        for (int how = 0; how < 4; how++) {
            Watched x = Cases.variables();
            x.begins(SOLE_A, true);
            x.lend(0, SOLE_B, SOLE_A, path(BEHIND, 2));
            x.lend(1, SHARED_A, SOLE_B, BEHIND);
            int another = x.variable(2, 1);
            x.begins(another, true);
            if (how == 0) {
                x.act(2, LET, SOLE_A, 0);
            } else if (how == 1) {
                x.lend(2, SOLE_A, PLAIN_ONE, 0);
            } else if (how == 2) {
                x.copy(2, SOLE_A, another);
            } else {
                x.copy(2, SOLE_A, SOLE_B);
            }
            x.chain(0, 1, 2, 3);
            due("ahead of it", x.holds(2, SHARED_A, 0), 1);
            due("from the one that it is lent to", x.holds(3, SOLE_B, 0), 0);
            due("from all", x.holds(3, SHARED_A, 0), 0);
            due("also from it", x.holds(3, SOLE_A, 0), 0);
            due("other loans stay", x.holds(3, SHARED_A, 1), 1);
        }
    }

    private static void promise12_plainOnesGivenAnewEndNoLoan() {
        for (int act : new int[] {LET, GIVE, MOVE, END}) {
            Watched x = lentAndRead(SOLE_A, PLAIN_ONE, 0);
            x.act(1, act, PLAIN_ONE, 0);
            due("act " + act, x.holds(2, SOLE_A, 0), 1);
        }
    }

    // ---- promise 13: used

    private static void promise13_pointsMinus1And0And149And150() {
        for (int p : NO_POINTS) {
            Cases.refused("used at " + p, x -> x.used(p, SOLE_A));
        }
        Watched x = Cases.variables();
        x.act(149, READ, SOLE_A, BEHIND);
        x.chain(0, 149);
        due("at 0", x.used(0, SOLE_A), 1);
        due("at 149", x.used(149, SOLE_A), 0);
    }

    private static void promise13_noReference() {
        for (int v : NO_VARIABLES) {
            Cases.refused("used of " + v, x -> x.used(0, v));
        }
        Cases.refused("a plain one", x -> x.used(0, PLAIN_ONE));
        Cases.refused("a plain one of three", x -> x.used(0, PLAIN_THREE));
        Watched x = Cases.variables();
        due("a plain one where no way comes", x.used(149, PLAIN_ONE), NONE);
    }

    private static void promise13_theVariableBehindThe16th() {
        Cases.refusedOnFull("used of 16", x -> x.used(0, 16));
        Cases.refusedOnFull("used of -1", x -> x.used(0, -1));
        Watched x = Cases.full();
        x.act(8, READ, 15, BEHIND);
        due("the 16th", x.used(0, 15), 1);
    }

    private static void promise13_aPointThatNoWayComesTo() {
        Watched x = Cases.variables();
        x.act(1, READ, SOLE_A, BEHIND);
        x.chain(5, 1);
        due("nowhere", x.used(5, SOLE_A), 0);
        x.next(0, 1, true);
        due("its next point is come to", x.used(5, SOLE_A), 0);
        x.next(0, 5, true);
        due("it is come to itself", x.used(5, SOLE_A), 1);
    }

    private static void promise13_byThisPointOnAWayBack() {
        Watched x = Cases.variables();
        x.act(0, READ, SOLE_A, BEHIND);
        due("no way back", x.used(0, SOLE_A), 0);
        x.next(0, 0, true);
        due("a way back", x.used(0, SOLE_A), 1);
        x.next(0, 0, false);
        x.chain(0, 1, 0);
        due("over another", x.used(0, SOLE_A), 1);
        x.act(1, LET, SOLE_A, 0);
        due("given anew in between", x.used(0, SOLE_A), 0);
    }

    private static void promise13_asItIsBehindThePointsAct() {
        Watched x = Cases.variables();
        x.act(1, READ, SOLE_A, BEHIND);
        x.chain(0, 1);
        x.lend(0, SOLE_A, PLAIN_ONE, 0);
        due("the point's own LEND", x.used(0, SOLE_A), 1);
        x.act(0, LET, SOLE_A, 0);
        due("the point's own LET", x.used(0, SOLE_A), 1);
        x.copy(0, SOLE_A, SOLE_B);
        due("the point's own COPY", x.used(0, SOLE_A), 1);
        due("its own use does not count", x.used(0, SOLE_B), 0);
    }

    private static void promise13_usedAndGivenAnewByOnePoint() {
        Watched x = Cases.variables();
        x.lend(1, SOLE_A, SOLE_A, BEHIND);
        x.chain(0, 1);
        due("used before it is given anew", x.used(0, SOLE_A), 1);
        x.lend(1, SHARED_A, SHARED_A, BEHIND);
        due("a shared one", x.used(0, SHARED_A), 1);
        due("no longer", x.used(0, SOLE_A), 0);
    }

    private static void promise13_givenAnewBeforeItIsUsed() {
        for (int how = 0; how < 5; how++) {
            Watched x = Cases.variables();
            if (how == 0) {
                x.act(1, LET, SOLE_A, 0);
            } else if (how == 1) {
                x.lend(1, SOLE_A, PLAIN_ONE, 0);
            } else if (how == 2) {
                x.copy(1, SOLE_A, SOLE_B);
            } else {
                x.act(1, how == 3 ? END : NOTHING, SOLE_A, 0);
            }
            x.act(2, CHANGE, SOLE_A, path(BEHIND, 1, 2, 3));
            x.chain(0, 1, 2);
            due("given anew by way " + how, x.used(0, SOLE_A), how < 3 ? 0 : 1);
            x.next(0, 2, true);
            due("on another way", x.used(0, SOLE_A), 1);
        }
    }

    private static void promise13_aPlainPlaceWithA5UsesNothing() {
        Watched x = Cases.variables();
        x.act(1, READ, PLAIN_ONE, BEHIND);
        x.chain(0, 1);
        for (int v = SHARED_A; v <= SOLE_B; v++) {
            due("reference " + v, x.used(0, v), 0);
        }
        due("no reference", x.used(0, PLAIN_ONE), NONE);
    }

    // ---- promise 14: force

    private static void promise14_pointsMinus1And0And149And150() {
        for (int p : NO_POINTS) {
            Cases.refused("at " + p, x -> x.force(0, p));
            Cases.refused("the loan of " + p, x -> x.force(p, 1));
        }
        Watched x = Cases.variables();
        x.lend(0, SOLE_A, PLAIN_ONE, 0);
        x.act(1, READ, SOLE_A, BEHIND);
        x.chain(0, 149, 1);
        due("at 0", x.force(0, 0), 0);
        due("at 149", x.force(0, 149), 1);
        x.act(0, NOTHING, 0, 0);
        x.lend(149, SOLE_A, PLAIN_ONE, 0);
        x.chain(149, 2, 1);
        due("the loan of 149", x.force(149, 2), 1);
    }

    private static void promise14_aPointThatMakesNoLoan() {
        for (int l : new int[] {3, 4, 5, 6, 7, 8, 9, 149}) {
            Cases.refused("the loan of " + l, x -> x.force(l, 1));
        }
        Watched x = Cases.variables();
        x.lend(0, SHARED_A, SHARED_B, path(BEHIND, 1));
        due("LEND through a shared one", x.force(0, 0), NONE);
    }

    private static void promise14_aPointThatNoWayComesTo() {
        Watched x = lentAndRead(SOLE_A, PLAIN_ONE, 0);
        x.lend(5, SOLE_B, PLAIN_ONE, 0);
        x.act(6, READ, SOLE_B, BEHIND);
        x.chain(5, 7, 6);
        due("its loan", x.force(5, 7), 0);
        due("a loan there", x.force(0, 7), 0);
        due("it breaks nothing", x.judge(), 0);
        x.next(0, 5, true);
        due("a way comes to it", x.force(5, 7), 1);
    }

    private static void promise14_theLastUseAndTheOneThatLends() {
        Watched x = lentAndRead(SOLE_A, PLAIN_ONE, 0);
        due("at the point that lends", x.force(0, 0), 0);
        due("in between", x.force(0, 1), 1);
        due("at the last use", x.force(0, 2), 0);
        x.next(2, 1, true);
        due("at a use on a way back", x.force(0, 2), 1);
        x.next(2, 1, false);
        x.next(2, 2, true);
        due("at a use that comes back to itself", x.force(0, 2), 1);
    }

    private static void promise14_thePointsOwnActGivesAnew() {
        Watched x = lentAndRead(SOLE_A, PLAIN_ONE, 0);
        x.act(1, LET, SOLE_A, 0);
        due("LET", x.force(0, 1), 0);
        x.lend(1, SOLE_A, PLAIN_THREE, 0);
        due("LEND", x.force(0, 1), 0);
        x.copy(1, SOLE_A, SOLE_B);
        due("COPY", x.force(0, 1), 0);
        x.lend(1, SOLE_A, SOLE_A, BEHIND);
        due("LEND through itself", x.force(0, 1), 0);
        x.act(1, END, SOLE_A, 0);
        due("END does not", x.force(0, 1), 1);
        x.copy(1, SOLE_B, SOLE_A);
        due("nor COPY from it", x.force(0, 1), 1);
    }

    private static void promise14_heldByAnotherThatIsUsed() {
        Watched x = lentAndRead(SOLE_A, PLAIN_ONE, 0);
        x.lend(1, SOLE_B, SOLE_A, BEHIND);
        x.act(3, READ, SOLE_B, BEHIND);
        x.chain(2, 3);
        due("after the last use of the first", x.force(0, 2), 1);
        x.act(3, NOTHING, 0, 0);
        due("the other one is not used", x.force(0, 2), 0);
        due("its loan neither", x.force(1, 2), 0);
    }

    private static void promise14_aUseAtAPointThatNoWayComesTo() {
        Watched x = Cases.variables();
        x.lend(0, SOLE_A, PLAIN_ONE, 0);
        x.act(5, READ, SOLE_A, BEHIND);
        x.chain(0, 1);
        x.next(5, 1, true);
        due("it uses nothing", x.force(0, 1), 0);
        x.next(1, 5, true);
        due("a way comes to it", x.force(0, 1), 1);
    }

    // ---- promise 15: count

    private static void promise15_whatBelow0AndAbove5() {
        for (int what : new int[] {-1, 6, 7, MIN, MAX}) {
            Cases.refused("count " + what, x -> x.count(what));
        }
        Watched x = new Watched();
        for (int what = 0; what <= 5; what++) {
            due("count " + what, x.count(what), what == 2 ? 1 : 0);
        }
    }

    private static void promise15_variablesUpTo16() {
        Watched x = new Watched();
        for (int i = 1; i <= 18; i++) {
            x.variable(0, 4);
            due("variables", x.count(0), Math.min(i, 16));
        }
    }

    private static void promise15_loansUpTo60() {
        Watched x = Cases.variables();
        for (int i = 1; i <= 62; i++) {
            x.lend(150 - i, SOLE_A, PLAIN_ONE, 0);
            due("loans", x.count(1), Math.min(i, 60));
        }
        x.lend(149, SHARED_A, SHARED_B, BEHIND);
        due("a LEND that makes none", x.count(1), 59);
        x.lend(149, SHARED_A, PLAIN_ONE, 0);
        due("a shared loan", x.count(1), 60);
    }

    private static void promise15_pointsUpTo150() {
        Watched x = new Watched();
        for (int p = 0; p < 149; p++) {
            due("points", x.count(2), p + 1);
            x.next(p, p + 1, true);
        }
        due("all points", x.count(2), 150);
        x.next(149, 0, true);
        due("a way back", x.count(2), 150);
    }

    /** The last of all the loans, bit 59, beside the first one. */
    private static void promise15_pairsOfAll60Loans() {
        Watched x = Cases.variables();
        for (int p = 0; p < 60; p++) {
            x.lend(p, SHARED_A, PLAIN_ONE, 0);
            x.next(p, 60, true);
        }
        for (int p = 0; p + 1 < 60; p++) {
            x.next(p, p + 1, true);
        }
        x.act(61, READ, SHARED_A, BEHIND);
        x.chain(60, 61);
        due("all are in force at one point", x.count(3), 60);
        due("the first one", x.force(0, 60), 1);
        due("the last one", x.force(59, 60), 1);
        due("no clash", x.count(5), 0);
        x.act(60, CHANGE, PLAIN_ONE, 0);
        due("one point clashes", x.count(5), 1);
        due("with the least one", x.fault(2), 0);
        x.next(61, 60, true);
        due("at two points", x.count(3), 120);
    }

    private static void promise15_unheldAndClashingPointsWhateverFault() {
        Watched x = lentAndRead(SOLE_A, PLAIN_ONE, 0);
        x.act(1, READ, PLAIN_ONE, 0);
        x.act(3, READ, SHARED_A, BEHIND);
        x.chain(2, 3);
        due("fault 3", x.judge(), 3);
        due("unheld", x.count(4), 1);
        due("clashing", x.count(5), 1);
        x.act(9, READ, SHARED_B, BEHIND);
        due("no way comes to 9", x.count(4), 1);
        x.next(3, 9, true);
        due("a way comes to it", x.count(4), 2);
    }

    private static void promise15_aPointCountsOnce() {
        Watched x = Cases.variables();
        x.begins(PLAIN_THREE, false);
        x.act(0, READ, PLAIN_THREE, 0);
        due("three leaves are unheld at one point", x.count(4), 1);
        x.begins(PLAIN_THREE, true);
        x.lend(0, SHARED_A, PLAIN_THREE, 1);
        x.lend(1, SHARED_B, PLAIN_THREE, 2);
        x.act(2, CHANGE, PLAIN_THREE, 0);
        x.act(3, READ, SHARED_A, BEHIND);
        x.act(4, READ, SHARED_B, BEHIND);
        x.chain(0, 1, 2, 3, 4);
        due("two loans clash at one point", x.count(5), 1);
    }

    public static void main(String[] args) throws Exception {
        Cases.run(AskingBoundaryTest.class);
    }
}
