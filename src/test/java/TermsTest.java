/** The section 'Terms' of the document, sentence by sentence; a case quotes what it sees to. */
public final class TermsTest {
    private static final int NONE = Cases.NONE;
    private static final int NOTHING = Cases.NOTHING;
    private static final int READ = Cases.READ;
    private static final int MOVE = Cases.MOVE;
    private static final int GIVE = Cases.GIVE;
    private static final int CHANGE = Cases.CHANGE;
    private static final int LET = Cases.LET;
    private static final int END = Cases.END;
    private static final int BEHIND = Cases.BEHIND;
    private static final int PLAIN_ONE = Cases.PLAIN_ONE;
    private static final int PLAIN_THREE = Cases.PLAIN_THREE;
    private static final int SHARED_A = Cases.SHARED_A;
    private static final int SHARED_B = Cases.SHARED_B;
    private static final int SOLE_A = Cases.SOLE_A;
    private static final int SOLE_B = Cases.SOLE_B;

    private static final int[] ON_PLACES = {READ, MOVE, GIVE, CHANGE};
    private static final int[] REFERENCES = {SHARED_A, SHARED_B, SOLE_A, SOLE_B};

    private static void due(String what, int got, int want) {
        Cases.due(what, got, want);
    }

    private static int path(int... digits) {
        return Cases.path(digits);
    }

    /** The usual variables, all of them given at the beginning. */
    private static Watched allGiven() {
        Watched x = Cases.variables();
        for (int r : REFERENCES) {
            x.begins(r, true);
        }
        return x;
    }

    /** All given; point 0 lends, point 1 is free, point 2 reads behind what has been lent. */
    private static Watched lent(int to, int v, int path) {
        Watched x = allGiven();
        x.lend(0, to, v, path);
        x.act(2, READ, to, BEHIND);
        x.chain(0, 1, 2);
        return x;
    }

    /** From point 0 over 1 and over 2 to point 3. */
    private static Watched partAndMeet(Watched x) {
        x.chain(0, 1, 3);
        x.chain(0, 2, 3);
        return x;
    }

    // ---- variables and places

    @Says("VARIABLES 0 .. 15, as they are made:")
    private static void terms_variablesAreNumberedAsTheyAreMade() {
        Watched x = new Watched();
        for (int v = 0; v < 16; v++) {
            due("not made yet", x.held(0, v, 0), NONE);
            due("variable", x.variable(v % 3, 1), v);
            due("made", x.held(0, v, 0), 0);
        }
        due("no variable 16", x.variable(0, 1), NONE);
        due("no variable 16", x.held(0, 16, 0), NONE);
    }

    @Says("PLAIN, of 1 .. 4 LEAVES;")
    private static void terms_plainOnesHaveOneToFourLeaves() {
        for (int leaves = -1; leaves <= 6; leaves++) {
            Watched x = new Watched();
            boolean may = leaves >= 1 && leaves <= 4;
            due("plain of " + leaves, x.variable(0, leaves), may ? 0 : NONE);
            for (int leaf = 0; leaf < 6; leaf++) {
                due("leaf " + leaf + " of " + leaves, x.held(0, 0, leaf), may && leaf < leaves ? 0 : NONE);
            }
            due("no reference", x.used(0, 0), NONE);
        }
    }

    @Says("or a REFERENCE, SHARED or SOLE, which is one LEAF.")
    private static void terms_aReferenceIsOneLeaf() {
        for (int sort = 1; sort <= 2; sort++) {
            Watched x = new Watched();
            due("of two leaves", x.variable(sort, 2), NONE);
            due("of none", x.variable(sort, 0), NONE);
            due("of one", x.variable(sort, 1), 0);
            due("its leaf", x.held(0, 0, 0), 0);
            due("no other", x.held(0, 0, 1), NONE);
            due("a reference", x.used(0, 0), 0);
            due("only a sole one is given through", x.act(0, GIVE, 0, BEHIND), sort == 2 ? 1 : NONE);
        }
    }

    @Says("A PLACE: a variable and a PATH, a number of up to four digits in base 8, the lowest first:")
    private static void terms_aPathsLowestDigitIsItsFirst() {
        Watched x = Cases.variables();
        due("2, then 5", x.act(0, READ, PLAIN_THREE, 2 + 5 * 8), 1);
        due("5, then 2", x.act(0, READ, PLAIN_THREE, 5 + 2 * 8), NONE);
        due("5, then 2, of a reference", x.act(0, READ, SOLE_A, 5 + 2 * 8), 1);
        due("2, then 5, of a reference", x.act(0, READ, SOLE_A, 2 + 5 * 8), NONE);
        due("four digits", x.act(0, READ, PLAIN_ONE, 1 + 8 + 64 + 512), 1);
        due("four digits", x.act(0, READ, PLAIN_ONE, 6 + 6 * 8 + 6 * 64 + 6 * 512), 1);
        due("five digits", x.act(0, READ, PLAIN_ONE, 1 + 8 + 64 + 512 + 4096), NONE);
        due("less than 0", x.act(0, READ, PLAIN_ONE, -1), NONE);
        x.act(0, MOVE, PLAIN_THREE, 2);
        x.act(1, READ, PLAIN_THREE, 2 + 3 * 8);
        x.chain(0, 1);
        due("the lowest tells the leaf", x.judge(), 3);
        x.act(1, READ, PLAIN_THREE, 3 + 2 * 8);
        due("not the next one", x.judge(), 0);
    }

    @Says("1 .. 4 parts 0 .. 3,")
    private static void terms_digits1To4AreParts0To3() {
        Watched x = new Watched();
        x.variable(0, 4);
        x.begins(0, true);
        x.chain(0, 1);
        for (int digit = 1; digit <= 4; digit++) {
            due("digit " + digit, x.act(0, MOVE, 0, digit), 1);
            for (int leaf = 0; leaf < 4; leaf++) {
                due("digit " + digit + ", leaf " + leaf, x.held(1, 0, leaf), leaf == digit - 1 ? 0 : 1);
            }
        }
    }

    @Says("5 what is behind it (^), 6 an element ([ ]), all alike;")
    private static void terms_fiveIsBehindAndSixAnElement() {
        Watched x = lent(SOLE_A, PLAIN_ONE, 6);
        for (int digit = 1; digit <= 6; digit++) {
            x.act(1, READ, PLAIN_ONE, digit);
            due("an element is lent, read " + digit, x.judge(), digit == 6 ? 4 : 0);
        }
        Watched y = lent(SOLE_A, PLAIN_ONE, BEHIND);
        for (int digit = 1; digit <= 6; digit++) {
            y.act(1, READ, PLAIN_ONE, digit);
            due("what is behind is lent, read " + digit, y.judge(), digit == BEHIND ? 4 : 0);
        }
        Watched z = Cases.variables();
        z.act(1, READ, SHARED_A, BEHIND);
        z.chain(0, 1);
        due("behind a reference", z.used(0, SHARED_A), 1);
        due("an element of a reference", z.act(1, READ, SHARED_A, 6), NONE);
    }

    @Says("no digit behind a 0, and no 0 but behind the last one, no other digits.")
    private static void terms_noOtherPaths() {
        int[] bad = {path(0, 1), path(0, 0, 1), path(1, 0, 1), path(1, 1, 0, 1), path(1, 0, 0, 1), path(0, 0, 0, 1),
            7, path(1, 7), path(7, 1), path(1, 1, 7), path(1, 1, 1, 7)};
        for (int path : bad) {
            Watched x = Cases.variables();
            for (int act : ON_PLACES) {
                due("act " + act + " of " + path, x.act(0, act, PLAIN_ONE, path), NONE);
            }
            due("READ of a part and on", x.act(0, READ, PLAIN_THREE, 1 + 8 * path), NONE);
            due("READ behind and on", x.act(0, READ, SOLE_A, BEHIND + 8 * path), NONE);
            due("LEND of " + path, x.lend(0, SHARED_A, PLAIN_ONE, path), NONE);
        }
        Watched y = Cases.variables();
        for (int path : new int[] {0, 1, path(1, 1), path(1, 1, 1), path(1, 1, 1, 1)}) {
            due("READ of " + path, y.act(0, READ, PLAIN_ONE, path), 1);
        }
    }

    @Says("It is a PLACE if: of a REFERENCE the PATH is 0 or its first digit 5;")
    private static void terms_placesOfAReference() {
        for (int digit = 1; digit <= 6; digit++) {
            int want = digit == BEHIND ? 1 : NONE;
            for (int path : new int[] {digit, path(digit, BEHIND), path(digit, 1, 2, 3)}) {
                Watched x = Cases.variables();
                due("READ of a shared one, " + path, x.act(0, READ, SHARED_A, path), want);
                due("READ of a sole one, " + path, x.act(0, READ, SOLE_A, path), want);
                due("CHANGE of a sole one, " + path, x.act(0, CHANGE, SOLE_A, path), want);
                due("LEND of a sole one, " + path, x.lend(0, SHARED_A, SOLE_A, path), want);
            }
        }
        Watched y = lent(SHARED_A, SOLE_A, path(BEHIND, 1));
        y.copy(1, SOLE_B, SOLE_A);
        due("the reference itself, path 0, begins all places behind it", y.judge(), 4);
    }

    @Says("of a PLAIN variable of several LEAVES it is 0 or its first digit tells one of these.")
    private static void terms_placesOfAPlainVariable() {
        for (int leaves = 1; leaves <= 4; leaves++) {
            Watched x = Cases.variables();
            int v = x.variable(0, leaves);
            due("path 0", x.act(0, READ, v, 0), 1);
            for (int digit = 1; digit <= 6; digit++) {
                int want = leaves == 1 || digit <= leaves ? 1 : NONE;
                due("digit " + digit + " of " + leaves, x.act(0, READ, v, digit), want);
                due("digit " + digit + " and on", x.act(0, GIVE, v, path(digit, 6, 5)), want);
                due("lent, digit " + digit, x.lend(0, SOLE_A, v, digit), want);
            }
        }
    }

    @Says("A PLACE goes THROUGH a REFERENCE if it begins with the ^ of one.")
    private static void terms_throughAReference() {
        for (int path : new int[] {BEHIND, path(BEHIND, 1), path(BEHIND, BEHIND), path(BEHIND, 6, 1, 2)}) {
            Watched x = Cases.variables();
            x.chain(0, 1);
            x.act(1, READ, SOLE_A, path);
            due("it uses the reference", x.used(0, SOLE_A), 1);
            due("through a shared one no loan is made", x.lend(2, SHARED_A, SHARED_B, path), 1);
            due("loans", x.count(1), 0);
            due("the ^ of a plain one is no reference's", x.lend(2, SHARED_A, PLAIN_ONE, path), 1);
            due("loans", x.count(1), 1);
            due("and may be lent to a sole one", x.lend(2, SOLE_A, PLAIN_ONE, path), 1);
            due("and be changed", x.act(2, CHANGE, PLAIN_ONE, path), 1);
        }
        Watched y = Cases.variables();
        due("the ^ of a part", y.lend(0, SOLE_A, PLAIN_THREE, path(1, BEHIND)), 1);
        due("is behind no reference", y.count(1), 1);
    }

    // ---- points and ways

    @Says("POINTS are 0 .. 149;")
    private static void terms_points0To149() {
        for (int p : new int[] {-1, 0, 1, 148, 149, 150}) {
            Watched x = Cases.variables();
            int want = p >= 0 && p <= 149 ? 1 : NONE;
            due("act at " + p, x.act(p, READ, PLAIN_ONE, 0), want);
            due("lend at " + p, x.lend(p, SHARED_A, PLAIN_ONE, 0), want);
            due("copy at " + p, x.copy(p, SHARED_A, SHARED_B), want);
            due("next to " + p, x.next(p, 5, true), want);
            due("next is " + p, x.next(0, p, true), want);
            due("comes to " + p, x.comes(p), want);
            due("held at " + p, x.held(p, PLAIN_ONE, 0), want);
            due("used at " + p, x.used(p, SHARED_A), want == 1 ? 0 : NONE);
        }
    }

    @Says("each has one ACT (nothing, at first)")
    private static void terms_eachPointHasOneAct() {
        Watched x = allGiven();
        x.chain(0, 1);
        due("nothing is lent at first", x.count(1), 0);
        due("nothing is taken at first", x.held(1, PLAIN_ONE, 0), 1);
        x.act(0, MOVE, PLAIN_ONE, 0);
        due("MOVE", x.held(1, PLAIN_ONE, 0), 0);
        x.act(0, MOVE, PLAIN_THREE, 0);
        due("another MOVE", x.held(1, PLAIN_THREE, 0), 0);
        due("instead of the first one", x.held(1, PLAIN_ONE, 0), 1);
        x.lend(0, SHARED_A, PLAIN_ONE, 0);
        due("LEND", x.count(1), 1);
        due("instead of MOVE", x.held(1, PLAIN_THREE, 0), 1);
        x.copy(0, SOLE_A, SOLE_B);
        due("COPY", x.held(1, SOLE_B, 0), 0);
        due("instead of LEND", x.count(1), 0);
        x.act(0, NOTHING, 0, 0);
        due("nothing again", x.held(1, SOLE_B, 0), 1);
    }

    @Says("and the points that are NEXT to it (none at first; at most 4).")
    private static void terms_atMostFourAreNext() {
        Watched x = new Watched();
        due("none at first", x.count(2), 1);
        for (int q = 1; q <= 4; q++) {
            due("next " + q, x.next(0, q, true), 1);
            due("points", x.count(2), q + 1);
        }
        due("a fifth", x.next(0, 5, true), NONE);
        due("no way comes to it", x.comes(5), 0);
        for (int q = 1; q <= 4; q++) {
            due("a way comes to " + q, x.comes(q), 1);
            due("none is next to " + q + " yet", x.next(q, 140 + q, true), 1);
        }
        due("points", x.count(2), 9);
    }

    @Says("A WAY begins at point 0 and goes on to points that are NEXT.")
    private static void terms_waysBeginAtPoint0() {
        Watched x = new Watched();
        due("point 0", x.comes(0), 1);
        x.chain(7, 3, 9);
        due("it begins at no other point", x.comes(7) + x.comes(3) + x.comes(9), 0);
        x.next(0, 3, true);
        due("to the next one", x.comes(3), 1);
        due("and the next to that", x.comes(9), 1);
        due("not back to the one ahead", x.comes(7), 0);
        x.next(9, 7, true);
        due("but if it is next", x.comes(7), 1);
        x.next(0, 3, false);
        due("no way on from 0", x.count(2), 1);
    }

    @Says("(A point that no way comes to breaks nothing, holds nothing, and uses nothing.)")
    private static void terms_aPointThatNoWayComesTo() {
        Watched x = lent(SOLE_A, PLAIN_ONE, 0);
        x.begins(SHARED_A, false);
        x.act(8, READ, SHARED_A, BEHIND);
        x.act(9, MOVE, PLAIN_ONE, 0);
        x.chain(8, 9, 2);
        due("breaks nothing", x.judge(), 0);
        due("wants nothing", x.count(4), 0);
        due("clashes with nothing", x.count(5), 0);
        due("holds nothing", x.held(9, PLAIN_ONE, 0), NONE);
        due("takes nothing", x.held(2, PLAIN_ONE, 0), 1);
        x.lend(9, SOLE_B, PLAIN_THREE, 0);
        due("holds no loan", x.holds(9, SOLE_A, 0), 0);
        due("lends nothing", x.holds(2, SOLE_B, 9), 0);
        due("nothing is in force there", x.force(0, 9), 0);
        Watched y = Cases.variables();
        y.act(8, READ, SOLE_A, BEHIND);
        y.chain(9, 8);
        due("uses nothing", y.used(9, SOLE_A), 0);
        y.chain(0, 1);
        due("nothing is used on the ways there are", y.used(0, SOLE_A), 0);
        y.chain(1, 8);
        due("a way comes to the use", y.used(0, SOLE_A), 1);
        due("but to 9 none", y.used(9, SOLE_A), 0);
    }

    // ---- acts

    @Says({"ACTS:", "READ, MOVE, GIVE, CHANGE of a PLACE; LET and END of a variable; LEND to a REFERENCE of a PLACE;"})
    private static void terms_whatActsAreOf() {
        Watched x = Cases.variables();
        for (int act : ON_PLACES) {
            due("act " + act + " of a place", x.act(0, act, PLAIN_THREE, 3), 1);
            due("act " + act + " of none", x.act(0, act, PLAIN_THREE, 4), NONE);
        }
        for (int v = 0; v < Cases.USUAL_VARIABLES; v++) {
            due("LET of " + v, x.act(0, LET, v, 0), 1);
            due("END of " + v, x.act(0, END, v, 0), 1);
        }
        due("LET of no variable", x.act(0, LET, 6, 0), NONE);
        due("END of no variable", x.act(0, END, 6, 0), NONE);
        for (int v = 0; v < Cases.USUAL_VARIABLES; v++) {
            due("LEND to " + v, x.lend(0, v, PLAIN_THREE, 3), v <= PLAIN_THREE ? NONE : 1);
            due("LEND to " + v + " of no place", x.lend(0, v, PLAIN_THREE, 4), NONE);
        }
    }

    @Says("COPY to a REFERENCE from another one, both SHARED or both SOLE.")
    private static void terms_copyBetweenReferencesOfOneSort() {
        int[] sorts = {0, 0, 1, 1, 2, 2};
        for (int to = 0; to < Cases.USUAL_VARIABLES; to++) {
            for (int from = 0; from < Cases.USUAL_VARIABLES; from++) {
                boolean may = to != from && sorts[to] == sorts[from] && sorts[to] != 0;
                due("from " + from + " to " + to, Cases.variables().copy(0, to, from), may ? 1 : NONE);
            }
        }
    }

    @Says("MOVE: of a PLAIN variable, with all its LEAVES, or of one of several LEAVES of one (the PATH no longer than that).")
    private static void terms_whatMoveMayBeOf() {
        Watched x = Cases.variables();
        x.chain(0, 1);
        due("all leaves", x.act(0, MOVE, PLAIN_THREE, 0), 1);
        for (int leaf = 0; leaf < 3; leaf++) {
            due("it takes leaf " + leaf, x.held(1, PLAIN_THREE, leaf), 0);
        }
        due("one leaf", x.act(0, MOVE, PLAIN_THREE, 2), 1);
        due("it takes that", x.held(1, PLAIN_THREE, 1), 0);
        due("and no other", x.held(1, PLAIN_THREE, 0), 1);
        due("the only leaf", x.act(0, MOVE, PLAIN_ONE, 0), 1);
        for (int digit = 1; digit <= 6; digit++) {
            due("a longer path", x.act(0, MOVE, PLAIN_THREE, path(2, digit)), NONE);
            due("a longer path of the only leaf", x.act(0, MOVE, PLAIN_ONE, digit), NONE);
        }
        for (int r : REFERENCES) {
            due("a reference", x.act(0, MOVE, r, 0), NONE);
            due("through a reference", x.act(0, MOVE, r, BEHIND), NONE);
        }
    }

    @Says("READ, GIVE, CHANGE: not of a REFERENCE itself, and GIVE, CHANGE not THROUGH a SHARED one.")
    private static void terms_whatReadGiveAndChangeMayBeOf() {
        for (int act : new int[] {READ, GIVE, CHANGE}) {
            Watched x = Cases.variables();
            for (int r : REFERENCES) {
                due("act " + act + " of the reference " + r, x.act(0, act, r, 0), NONE);
            }
            for (int path : new int[] {BEHIND, path(BEHIND, 2), path(BEHIND, 6, 6, 6)}) {
                due("act " + act + " through a sole one", x.act(0, act, SOLE_A, path), 1);
                due("act " + act + " through a shared one", x.act(0, act, SHARED_A, path), act == READ ? 1 : NONE);
            }
            due("act " + act + " of a plain one", x.act(0, act, PLAIN_ONE, 0), 1);
        }
    }

    @Says("LEND: of a PLACE of a PLAIN variable, or THROUGH a REFERENCE (to a SOLE one not THROUGH a SHARED one, but"
            + " THROUGH the one it is lent to, too).")
    private static void terms_whatLendMayBeOf() {
        Watched x = Cases.variables();
        for (int to : REFERENCES) {
            boolean toSole = to == SOLE_A || to == SOLE_B;
            due("of a plain one to " + to, x.lend(0, to, PLAIN_ONE, 0), 1);
            due("of a place of a plain one to " + to, x.lend(0, to, PLAIN_THREE, path(1, 5)), 1);
            for (int through : REFERENCES) {
                boolean sole = through == SOLE_A || through == SOLE_B;
                String told = " " + through + " to " + to;
                due("through" + told, x.lend(0, to, through, BEHIND), toSole && !sole ? NONE : 1);
                due("further through" + told, x.lend(0, to, through, path(BEHIND, 1)), toSole && !sole ? NONE : 1);
                due("of the reference" + told, x.lend(0, to, through, 0), NONE);
            }
        }
    }

    // ---- leaves

    @Says("LEAVES of a PLACE: of a PLAIN variable of several LEAVES that one which the PATH tells, with PATH 0 all; else"
            + " the variable's one.")
    private static void terms_leavesOfAPlace() {
        for (int taken = 1; taken <= 3; taken++) {
            Watched x = Cases.variables();
            x.act(0, MOVE, PLAIN_THREE, taken);
            x.chain(0, 1);
            for (int digit = 1; digit <= 3; digit++) {
                int want = digit == taken ? 3 : 0;
                x.act(1, READ, PLAIN_THREE, digit);
                due("leaf " + taken + " is taken, read " + digit, x.judge(), want);
                x.act(1, READ, PLAIN_THREE, path(digit, taken, 6));
                due("leaf " + taken + " is taken, read in " + digit, x.judge(), want);
            }
            x.act(1, READ, PLAIN_THREE, 0);
            due("leaf " + taken + " is taken, read all", x.judge(), 3);
        }
        for (int path : new int[] {0, 1, 4, BEHIND, path(6, 2)}) {
            Watched y = Cases.variables();
            y.act(0, READ, PLAIN_ONE, path);
            due("the only leaf is given", y.judge(), 0);
            y.begins(PLAIN_ONE, false);
            due("the only leaf is not", y.judge(), 3);
        }
        Watched z = Cases.variables();
        z.act(0, READ, SHARED_A, path(BEHIND, 4));
        due("a reference's one is not given", z.judge(), 3);
        z.begins(SHARED_A, true);
        due("a reference's one is given", z.judge(), 0);
    }

    @Says("A PLACE is WITHIN its LEAF if the PATH goes on behind that.")
    private static void terms_withinALeaf() {
        int[][] rows = {{PLAIN_ONE, 0, 0}, {PLAIN_ONE, 1, 1}, {PLAIN_ONE, path(6, 6), 1}, {PLAIN_THREE, 0, 0},
            {PLAIN_THREE, 1, 0}, {PLAIN_THREE, 3, 0}, {PLAIN_THREE, path(1, 1), 1}, {PLAIN_THREE, path(3, 5, 1, 1), 1},
            {SOLE_A, BEHIND, 1}, {SOLE_A, path(BEHIND, 1), 1}};
        for (int[] row : rows) {
            Watched x = Cases.variables();
            x.begins(row[0], false);
            x.act(0, GIVE, row[0], row[1]);
            x.chain(0, 1);
            int leaf = row[1] == 0 || row[0] != PLAIN_THREE ? 0 : row[1] % 8 - 1;
            String told = " of " + row[0] + ", " + row[1];
            due("GIVE wants the leaf" + told, x.judge(), row[2] == 1 ? 3 : 0);
            due("or gives it" + told, x.held(1, row[0], leaf), 1 - row[2]);
        }
    }

    @Says("A LEAF is HELD at a point (ahead of its ACT) if on all WAYS to it it was GIVEN and not TAKEN since:")
    private static void terms_heldOnAllWaysThatMeet() {
        // given at the beginning, the acts of points 1 and 2, and what is held where the ways meet
        int[][] rows = {{1, NOTHING, NOTHING, 1}, {1, MOVE, NOTHING, 2}, {1, NOTHING, LET, 2}, {1, MOVE, MOVE, 0},
            {1, MOVE, GIVE, 2}, {1, GIVE, GIVE, 1}, {0, NOTHING, NOTHING, 0}, {0, GIVE, NOTHING, 2}, {0, NOTHING, GIVE, 2},
            {0, GIVE, GIVE, 1}, {0, GIVE, LET, 2}, {0, LET, END, 0}};
        for (int[] row : rows) {
            Watched x = partAndMeet(Cases.variables());
            x.begins(PLAIN_ONE, row[0] == 1);
            x.act(1, row[1], PLAIN_ONE, 0);
            x.act(2, row[2], PLAIN_ONE, 0);
            x.act(3, READ, PLAIN_ONE, 0);
            String told = row[0] + ", acts " + row[1] + " and " + row[2];
            due("where they part, " + told, x.held(0, PLAIN_ONE, 0), row[0]);
            due("ahead of act 1, " + told, x.held(1, PLAIN_ONE, 0), row[0]);
            due("ahead of act 2, " + told, x.held(2, PLAIN_ONE, 0), row[0]);
            due("where they meet, " + told, x.held(3, PLAIN_ONE, 0), row[3]);
            due("wanted there, " + told, x.count(4) - wantedOnTheWay(row), row[3] == 1 ? 0 : 1);
        }
    }

    private static int wantedOnTheWay(int[] row) {
        return row[0] == 1 ? 0 : (row[1] == MOVE ? 1 : 0) + (row[2] == MOVE ? 1 : 0);
    }

    @Says("A LEAF is HELD at a point (ahead of its ACT) if on all WAYS to it it was GIVEN and not TAKEN since:")
    private static void terms_heldOnWaysThatComeBack() {
        Watched x = Cases.variables();
        x.chain(0, 1, 2, 3);
        x.act(2, LET, PLAIN_THREE, 0);
        due("no way back yet", x.held(1, PLAIN_THREE, 0), 1);
        x.next(2, 1, true);
        due("taken on the way back", x.held(1, PLAIN_THREE, 0), 2);
        due("at the taker too", x.held(2, PLAIN_THREE, 0), 2);
        due("behind it on no way", x.held(3, PLAIN_THREE, 0), 0);
        due("ahead of the ring on all", x.held(0, PLAIN_THREE, 0), 1);
        x.act(1, GIVE, PLAIN_THREE, 2);
        due("one leaf is given in the ring", x.held(2, PLAIN_THREE, 1), 1);
        due("the others are not", x.held(2, PLAIN_THREE, 2), 2);
        x.act(3, GIVE, PLAIN_THREE, 0);
        x.next(3, 0, true);
        due("back to the beginning", x.held(0, PLAIN_THREE, 2), 1);
        x.act(3, MOVE, PLAIN_ONE, 0);
        due("taken all around", x.held(0, PLAIN_ONE, 0), 2);
        x.begins(PLAIN_ONE, false);
        due("given on no way", x.held(0, PLAIN_ONE, 0), 0);
        x.act(0, GIVE, PLAIN_ONE, 0);
        due("given behind point 0, on all ways", x.held(1, PLAIN_ONE, 0), 1);
        due("ahead of its first act on none", x.held(0, PLAIN_ONE, 0), 0);
        x.next(1, 0, true);
        due("a shorter way back, past the taker", x.held(0, PLAIN_ONE, 0), 2);
    }

    @Says("A LEAF is HELD at a point (ahead of its ACT) if on all WAYS to it it was GIVEN and not TAKEN since:")
    private static void terms_heldOnOneOfFourWaysAndOnLongOnes() {
        for (int odd = 1; odd <= 4; odd++) {
            Watched x = Cases.variables();
            for (int p = 1; p <= 4; p++) {
                x.chain(0, p, 9);
                x.act(p, p == odd ? MOVE : NOTHING, PLAIN_ONE, 0);
            }
            due("taken on way " + odd, x.held(9, PLAIN_ONE, 0), 2);
            for (int p = 1; p <= 4; p++) {
                x.act(p, p == odd ? NOTHING : MOVE, PLAIN_ONE, 0);
            }
            due("taken on all but " + odd, x.held(9, PLAIN_ONE, 0), 2);
            x.act(odd, MOVE, PLAIN_ONE, 0);
            due("taken on all", x.held(9, PLAIN_ONE, 0), 0);
        }
        Watched y = Cases.variables();
        y.next(0, 149, true);
        for (int p = 149; p > 1; p--) {
            y.next(p, p - 1, true);
        }
        y.act(149, MOVE, PLAIN_ONE, 0);
        due("over all points", y.held(1, PLAIN_ONE, 0), 0);
        y.next(0, 75, true);
        due("on the shorter way", y.held(1, PLAIN_ONE, 0), 2);
        y.act(40, GIVE, PLAIN_ONE, 0);
        due("given again", y.held(1, PLAIN_ONE, 0), 1);
    }

    @Says("A LEAF is HELD at a point (ahead of its ACT) if on all WAYS to it it was GIVEN and not TAKEN since:")
    private static void terms_heldEachLeafForItself() {
        Watched x = partAndMeet(Cases.variables());
        x.act(1, MOVE, PLAIN_THREE, 1);
        x.act(2, MOVE, PLAIN_THREE, 2);
        x.act(3, READ, PLAIN_THREE, 0);
        due("taken on the one way", x.held(3, PLAIN_THREE, 0), 2);
        due("taken on the other", x.held(3, PLAIN_THREE, 1), 2);
        due("taken on neither", x.held(3, PLAIN_THREE, 2), 1);
        due("the first leaf was taken by", x.fault(2), 1);
        x.begins(PLAIN_THREE, false);
        x.act(1, GIVE, PLAIN_THREE, 1);
        x.act(2, GIVE, PLAIN_THREE, 2);
        due("given on the one way", x.held(3, PLAIN_THREE, 0), 2);
        due("given on the other", x.held(3, PLAIN_THREE, 1), 2);
        due("given on neither", x.held(3, PLAIN_THREE, 2), 0);
        x.next(1, 2, true);
        x.next(0, 2, false);
        x.next(1, 3, false);
        due("one way: both are given", x.held(3, PLAIN_THREE, 0) + x.held(3, PLAIN_THREE, 1), 2);
    }

    @Says("GIVEN: those that are so at the beginning;")
    private static void terms_givenAtTheBeginning() {
        Watched x = Cases.variables();
        x.chain(0, 1);
        x.begins(SOLE_A, true);
        due("a reference", x.held(1, SOLE_A, 0), 1);
        due("another one is not", x.held(1, SOLE_B, 0), 0);
        due("a leaf", x.held(1, PLAIN_THREE, 2), 1);
        x.begins(PLAIN_THREE, false);
        due("not any more", x.held(1, PLAIN_THREE, 2), 0);
    }

    @Says("by GIVE to it or its variable, not WITHIN it;")
    private static void terms_givenByGive() {
        for (int path : new int[] {0, 1, 2, 3, path(1, 6), path(2, 1), path(3, 5)}) {
            Watched x = Cases.variables();
            x.begins(PLAIN_THREE, false);
            x.act(0, GIVE, PLAIN_THREE, path);
            x.chain(0, 1);
            for (int leaf = 0; leaf < 3; leaf++) {
                boolean given = path == 0 || path == leaf + 1;
                due("GIVE of " + path + ", leaf " + leaf, x.held(1, PLAIN_THREE, leaf), given ? 1 : 0);
            }
        }
        Watched y = Cases.variables();
        y.begins(PLAIN_ONE, false);
        y.chain(0, 1);
        y.act(0, GIVE, PLAIN_ONE, 0);
        due("the only leaf", y.held(1, PLAIN_ONE, 0), 1);
        y.act(0, GIVE, PLAIN_ONE, 2);
        due("within it", y.held(1, PLAIN_ONE, 0), 0);
        y.act(0, GIVE, SOLE_A, BEHIND);
        due("through a reference", y.held(1, SOLE_A, 0), 0);
        y.act(0, CHANGE, PLAIN_ONE, 0);
        due("CHANGE gives nothing", y.held(1, PLAIN_ONE, 0), 0);
        y.act(0, READ, PLAIN_ONE, 0);
        due("READ gives nothing", y.held(1, PLAIN_ONE, 0), 0);
    }

    @Says("by LEND or COPY to it.")
    private static void terms_givenByLendOrCopy() {
        for (int to : REFERENCES) {
            Watched x = allGiven();
            x.begins(to, false);
            x.chain(0, 1);
            due("not ahead", x.held(0, to, 0), 0);
            x.lend(0, to, PLAIN_ONE, 0);
            due("LEND to " + to, x.held(1, to, 0), 1);
            x.lend(0, to, to, BEHIND);
            due("LEND through itself to " + to, x.held(1, to, 0), 1);
            int from = to % 2 == 0 ? to + 1 : to - 1;
            x.copy(0, to, from);
            due("COPY to " + to, x.held(1, to, 0), 1);
            x.copy(0, from, to);
            due("COPY from " + to, x.held(1, to, 0), 0);
        }
    }

    @Says("TAKEN: by MOVE, LET;")
    private static void terms_takenByMoveAndLet() {
        for (int act : new int[] {NOTHING, READ, MOVE, GIVE, CHANGE, LET, END}) {
            Watched x = Cases.variables();
            x.chain(0, 1);
            x.act(0, act, PLAIN_ONE, 0);
            due("act " + act, x.held(1, PLAIN_ONE, 0), act == MOVE || act == LET ? 0 : 1);
            due("no other variable", x.held(1, PLAIN_THREE, 0), 1);
        }
        for (int r : REFERENCES) {
            Watched x = allGiven();
            x.chain(0, 1);
            x.act(0, LET, r, 0);
            due("LET of " + r, x.held(1, r, 0), 0);
            x.act(0, END, r, 0);
            due("END of " + r, x.held(1, r, 0), 1);
            x.lend(0, SHARED_B, r, BEHIND);
            due("LEND through " + r, x.held(1, r, 0), 1);
        }
        Watched y = Cases.variables();
        y.chain(0, 1);
        y.act(0, LET, PLAIN_THREE, 2);
        for (int leaf = 0; leaf < 3; leaf++) {
            due("LET of all leaves", y.held(1, PLAIN_THREE, leaf), 0);
        }
    }

    @Says("by COPY of a SOLE one from it.")
    private static void terms_takenByCopyOfASoleOne() {
        Watched x = allGiven();
        x.chain(0, 1);
        x.copy(0, SOLE_B, SOLE_A);
        due("from a sole one", x.held(1, SOLE_A, 0), 0);
        due("to it", x.held(1, SOLE_B, 0), 1);
        x.copy(0, SHARED_B, SHARED_A);
        due("from a shared one", x.held(1, SHARED_A, 0), 1);
        due("to it", x.held(1, SHARED_B, 0), 1);
    }

    @Says("A point WANTS its PLACE's LEAVES (READ, MOVE, CHANGE, LEND; GIVE if it is WITHIN), or the REFERENCE that is"
            + " copied from.")
    private static void terms_whatAPointWants() {
        int[][] rows = {{NOTHING, 0, 0}, {READ, 0, 1}, {MOVE, 0, 1}, {GIVE, 0, 0}, {CHANGE, 0, 1}, {LET, 0, 0}, {END, 0, 0},
            {READ, 2, 1}, {GIVE, 2, 1}, {CHANGE, 2, 1}};
        for (int[] row : rows) {
            Watched x = Cases.variables();
            x.begins(PLAIN_ONE, false);
            x.act(0, row[0], PLAIN_ONE, row[1]);
            due("act " + row[0] + " of " + row[1], x.count(4), row[2]);
        }
        for (int to : REFERENCES) {
            Watched x = Cases.variables();
            x.lend(0, to, PLAIN_ONE, 0);
            due("LEND wants not the one it is lent to", x.count(4), 0);
            x.begins(PLAIN_ONE, false);
            due("but what is lent", x.count(4), 1);
            int from = to % 2 == 0 ? to + 1 : to - 1;
            x.copy(0, to, from);
            due("COPY wants the one it is from", x.count(4), 1);
            x.begins(from, true);
            due("and not the other one", x.count(4), 0);
            x.lend(0, to, from, BEHIND);
            due("LEND through a given one", x.count(4), 0);
            x.begins(from, false);
            due("LEND through one that is not", x.count(4), 1);
        }
        Watched y = Cases.variables();
        for (int act : new int[] {READ, GIVE, CHANGE}) {
            y.act(0, act, SOLE_A, BEHIND);
            due("act " + act + " through a reference wants it", y.count(4), 1);
        }
    }

    // ---- fault 3

    @Says("FAULT 3: the least point that WANTS a LEAF that is not HELD;")
    private static void terms_theLeastPointOfFault3() {
        Watched x = Cases.variables();
        x.chain(0, 9, 4, 6, 2);
        x.act(9, MOVE, PLAIN_THREE, 1);
        x.act(6, READ, PLAIN_THREE, 0);
        due("judge", x.judge(), 3);
        due("the only one", x.fault(1), 6);
        x.act(4, READ, PLAIN_THREE, 1);
        due("a lesser one ahead of it", x.fault(1), 4);
        x.act(2, CHANGE, PLAIN_THREE, path(1, 6));
        due("a lesser one behind it", x.fault(1), 2);
        x.act(1, READ, PLAIN_THREE, 1);
        due("a lesser one that no way comes to", x.fault(1), 2);
        x.act(0, READ, PLAIN_THREE, 1);
        due("a lesser one that holds it", x.fault(1), 2);
        x.act(2, READ, PLAIN_THREE, 2);
        due("a lesser one that wants another leaf", x.fault(1), 4);
        due("of two", x.count(4), 2);
    }

    @Says("FAULT 3: the least point that WANTS a LEAF that is not HELD;")
    private static void terms_fault3OnSomeWaysIsEnough() {
        Watched x = partAndMeet(Cases.variables());
        x.act(2, MOVE, PLAIN_ONE, 0);
        x.act(3, READ, PLAIN_ONE, 0);
        due("on some way", x.fault(1), 3);
        x.next(2, 3, false);
        due("on no way", x.judge(), 0);
        x.act(1, CHANGE, PLAIN_ONE, 0);
        x.next(2, 1, true);
        due("it goes over 1 now", x.fault(1), 1);
        x.next(3, 0, true);
        due("and comes back to 0, which wants nothing", x.fault(1), 1);
        x.act(0, READ, PLAIN_ONE, 0);
        due("or does", x.fault(1), 0);
    }

    @Says("its other point: the least one that TAKES the first such LEAF from which a WAY leads there on which it is not"
            + " GIVEN behind that;")
    private static void terms_theLeastTakerOfFault3() {
        Watched x = Cases.variables();
        x.act(8, LET, PLAIN_ONE, 0);
        x.act(5, LET, PLAIN_ONE, 0);
        x.act(6, LET, PLAIN_ONE, 0);
        x.act(7, READ, PLAIN_ONE, 0);
        x.chain(0, 8, 6, 7);
        x.chain(0, 5);
        due("the least on a way there", x.fault(2), 6);
        x.next(5, 7, true);
        due("a lesser one leads there too", x.fault(2), 5);
        x.act(1, LET, PLAIN_ONE, 0);
        x.next(1, 7, true);
        due("a lesser one to which no way comes", x.fault(2), 5);
        x.act(4, LET, PLAIN_ONE, 0);
        x.chain(7, 4);
        due("a lesser one behind it", x.fault(2), 5);
        x.next(4, 7, true);
        due("from which a way comes back", x.fault(2), 4);
        x.act(3, LET, PLAIN_THREE, 0);
        x.chain(0, 3, 7);
        due("a lesser one that takes something else", x.fault(2), 4);
    }

    @Says("its other point: the least one that TAKES the first such LEAF from which a WAY leads there on which it is not"
            + " GIVEN behind that;")
    private static void terms_theTakersOfTheFirstLeafThatIsNotHeld() {
        Watched x = Cases.variables();
        x.act(1, MOVE, PLAIN_THREE, 3);
        x.act(2, MOVE, PLAIN_THREE, 2);
        x.act(3, MOVE, PLAIN_THREE, 1);
        x.act(4, READ, PLAIN_THREE, 0);
        x.chain(0, 1, 2, 3, 4);
        due("the first leaf", x.fault(2), 3);
        x.act(3, NOTHING, 0, 0);
        due("the second, as the first is held", x.fault(2), 2);
        x.act(2, NOTHING, 0, 0);
        due("the third", x.fault(2), 1);
        x.act(2, MOVE, PLAIN_THREE, 1);
        x.act(4, READ, PLAIN_THREE, path(3, 1));
        due("the only one that is wanted", x.fault(2), 1);
        x.act(4, LET, PLAIN_THREE, 0);
        x.act(5, READ, PLAIN_THREE, 0);
        x.chain(4, 5);
        due("LET takes it again, but 2 is less", x.fault(2), 2);
    }

    @Says("its other point: the least one that TAKES the first such LEAF from which a WAY leads there on which it is not"
            + " GIVEN behind that;")
    private static void terms_takersBehindWhichItIsGiven() {
        Watched x = Cases.variables();
        x.act(1, MOVE, PLAIN_THREE, 2);
        x.act(2, GIVE, PLAIN_THREE, 0);
        x.act(3, MOVE, PLAIN_THREE, 2);
        x.act(4, CHANGE, PLAIN_THREE, 2);
        x.chain(0, 1, 2, 3, 4);
        due("given behind point 1", x.fault(2), 3);
        x.next(1, 3, true);
        due("on one way not", x.fault(2), 1);
        x.next(1, 3, false);
        x.act(2, GIVE, PLAIN_THREE, 2);
        due("given alone", x.fault(2), 3);
        x.act(2, GIVE, PLAIN_THREE, 1);
        due("another leaf is given", x.fault(1), 3);
        due("then 3 wants it, too", x.fault(2), 1);
        x.act(2, GIVE, PLAIN_THREE, 2);
        x.next(4, 2, true);
        due("a way back over the giver", x.fault(2), 3);
        x.next(4, 1, true);
        due("a way back to point 1 takes it twice", x.fault(1), 1);
        due("first at point 3", x.fault(2), 3);
        x.act(3, NOTHING, 0, 0);
        due("given on each way", x.judge(), 0);
    }

    @Says("its other point: the least one that TAKES the first such LEAF from which a WAY leads there on which it is not"
            + " GIVEN behind that;")
    private static void terms_aTakerThatIsThePointItself() {
        Watched x = Cases.variables();
        x.act(3, MOVE, PLAIN_ONE, 0);
        x.chain(0, 3, 5);
        due("once", x.judge(), 0);
        x.next(5, 3, true);
        due("twice", x.fault(1), 3);
        due("by itself on a way back", x.fault(2), 3);
        x.act(5, GIVE, PLAIN_ONE, 0);
        due("given on the way back", x.judge(), 0);
        Watched y = allGiven();
        y.copy(6, SOLE_B, SOLE_A);
        y.chain(0, 6, 6);
        due("COPY of a sole one", y.fault(1), 6);
        due("takes it for itself", y.fault(2), 6);
        y.lend(0, SOLE_A, SOLE_A, BEHIND);
        due("given ahead, not behind", y.fault(2), 6);
        y.lend(7, SOLE_A, PLAIN_ONE, 0);
        y.next(6, 6, false);
        y.chain(6, 7, 6);
        due("LEND gives it on the way back", y.judge(), 0);
        y.copy(7, SOLE_A, SOLE_B);
        due("so does COPY", y.judge(), 0);
    }

    @Says("NONE if there is none.")
    private static void terms_noOtherPointOfFault3() {
        Watched x = Cases.variables();
        x.begins(PLAIN_ONE, false);
        x.act(2, READ, PLAIN_ONE, 0);
        x.chain(0, 1, 2);
        due("the point", x.fault(1), 2);
        due("it was never given", x.fault(2), NONE);
        x.act(1, GIVE, PLAIN_ONE, 0);
        x.next(0, 2, true);
        due("not on one way", x.fault(1), 2);
        due("nobody took it", x.fault(2), NONE);
        x.act(1, LET, PLAIN_ONE, 0);
        due("somebody takes it", x.fault(2), 1);
    }

    // ---- loans

    @Says("A LOAN is made by each point with LEND of a PLACE that does not go THROUGH a SHARED REFERENCE;")
    private static void terms_whoMakesALoan() {
        int[][] rows = {{SHARED_A, PLAIN_ONE, 0, 1}, {SHARED_A, PLAIN_THREE, path(2, 5), 1}, {SOLE_A, PLAIN_ONE, BEHIND, 1},
            {SHARED_A, SOLE_A, BEHIND, 1}, {SOLE_B, SOLE_A, path(BEHIND, 1), 1}, {SOLE_A, SOLE_A, BEHIND, 1},
            {SHARED_A, SHARED_B, BEHIND, 0}, {SHARED_A, SHARED_B, path(BEHIND, 6), 0}, {SHARED_A, SHARED_A, BEHIND, 0}};
        for (int[] row : rows) {
            Watched x = allGiven();
            due("LEND", x.lend(3, row[0], row[1], row[2]), 1);
            String told = " by LEND of " + row[1] + ", " + row[2];
            due("loans" + told, x.count(1), row[3]);
            due("a loan" + told, x.force(3, 0), row[3] == 1 ? 0 : NONE);
            due("a loan to be held" + told, x.holds(0, SHARED_A, 3), row[3] == 1 ? 0 : NONE);
        }
        Watched y = allGiven();
        for (int p = 0; p < 5; p++) {
            y.lend(10 * p, SHARED_A, PLAIN_ONE, 0);
            due("each point makes one", y.count(1), p + 1);
        }
        y.act(20, LET, PLAIN_ONE, 0);
        y.copy(30, SHARED_A, SHARED_B);
        due("no other act does", y.count(1), 3);
        due("LET", y.force(20, 0), NONE);
        due("COPY", y.force(30, 0), NONE);
    }

    @Says("at most 60 points have LEND at once;")
    private static void terms_atMost60PointsHaveLend() {
        Watched x = allGiven();
        for (int p = 0; p < 60; p++) {
            boolean plain = p % 2 == 0;
            due("LEND at " + p, x.lend(2 * p, SHARED_A, plain ? PLAIN_ONE : SHARED_B, plain ? 0 : BEHIND), 1);
        }
        due("those without a loan count", x.lend(1, SHARED_A, PLAIN_ONE, 0), NONE);
        due("such a one is one too many, too", x.lend(1, SHARED_A, SHARED_B, BEHIND), NONE);
        due("loans", x.count(1), 30);
        due("one of the 60", x.lend(0, SHARED_B, PLAIN_THREE, 0), 1);
        due("another act there", x.act(2, NOTHING, 0, 0), 1);
        due("room for one", x.lend(1, SHARED_A, PLAIN_ONE, 0), 1);
        due("for no other", x.lend(2, SHARED_A, PLAIN_ONE, 0), NONE);
    }

    @Says("it is SOLE if it is lent to a SOLE one.")
    private static void terms_aLoanToASoleOneIsSole() {
        int[][] lentPlaces = {{PLAIN_ONE, 0}, {PLAIN_THREE, 1}, {SOLE_B, BEHIND}};
        for (int[] place : lentPlaces) {
            Watched x = lent(SHARED_A, place[0], place[1]);
            x.act(1, READ, place[0], place[1]);
            due("lent to a shared one and read", x.judge(), 0);
            Watched y = lent(SOLE_A, place[0], place[1]);
            y.act(1, READ, place[0], place[1]);
            due("lent to a sole one and read", y.judge(), 4);
        }
    }

    @Says("A REFERENCE HOLDS, ahead of a point's ACT: by LEND to it that LOAN, and all that the REFERENCE held THROUGH"
            + " which it goes;")
    private static void terms_heldByLend() {
        Watched x = allGiven();
        x.chain(0, 1, 2, 3, 4);
        x.lend(0, SOLE_A, PLAIN_ONE, 0);
        x.lend(1, SOLE_B, SOLE_A, path(BEHIND, 1));
        x.lend(2, SHARED_A, SOLE_B, BEHIND);
        x.lend(3, SHARED_B, SHARED_A, path(BEHIND, 2));
        due("ahead of its own act", x.holds(0, SOLE_A, 0), 0);
        due("the one it is lent to", x.holds(1, SOLE_A, 0), 1);
        due("no other one", x.holds(1, SOLE_B, 0) + x.holds(1, SHARED_A, 0), 0);
        due("its own", x.holds(2, SOLE_B, 1), 1);
        due("what the one held that it goes through", x.holds(2, SOLE_B, 0), 1);
        due("that one holds not the new loan", x.holds(2, SOLE_A, 1), 0);
        for (int l = 0; l <= 2; l++) {
            due("on and on", x.holds(3, SHARED_A, l), 1);
            due("through a shared one, too", x.holds(4, SHARED_B, l), 1);
        }
        x.lend(2, SHARED_A, PLAIN_THREE, 0);
        due("of a plain one: its own", x.holds(3, SHARED_A, 2), 1);
        due("nothing else", x.holds(3, SHARED_A, 0) + x.holds(3, SHARED_A, 1), 0);
        x.lend(2, SHARED_A, PLAIN_ONE, BEHIND);
        due("the ^ of a plain one: nothing else", x.holds(3, SHARED_A, 0) + x.holds(3, SHARED_A, 1), 0);
    }

    @Says("by COPY what the other one held;")
    private static void terms_heldByCopy() {
        Watched x = allGiven();
        x.chain(0, 1, 2, 3, 4);
        x.lend(0, SHARED_A, PLAIN_ONE, 0);
        x.lend(1, SHARED_B, PLAIN_THREE, 0);
        x.copy(2, SHARED_B, SHARED_A);
        x.lend(3, SHARED_A, PLAIN_THREE, 1);
        due("ahead of it not", x.holds(2, SHARED_B, 0), 0);
        due("what the other one held", x.holds(3, SHARED_B, 0), 1);
        due("not what it held itself", x.holds(3, SHARED_B, 1), 0);
        due("not what the other one gets later", x.holds(4, SHARED_B, 3), 0);
        due("and it keeps what that one has no longer", x.holds(4, SHARED_B, 0), 1);
        x.lend(0, SOLE_A, PLAIN_ONE, 0);
        x.copy(2, SOLE_B, SOLE_A);
        due("sole ones", x.holds(3, SOLE_B, 0), 1);
    }

    @Says("it holds that till it is given anew (LEND, COPY, LET),")
    private static void terms_heldTillGivenAnew() {
        for (int act : new int[] {NOTHING, READ, GIVE, CHANGE, LET, END}) {
            Watched x = lent(SOLE_A, PLAIN_ONE, 0);
            x.act(1, act, SOLE_A, act == LET || act == END ? 0 : BEHIND);
            due("ahead of act " + act, x.holds(1, SOLE_A, 0), 1);
            due("behind act " + act, x.holds(2, SOLE_A, 0), act == LET ? 0 : 1);
        }
        for (int act : new int[] {MOVE, GIVE, LET, END}) {
            Watched x = lent(SOLE_A, PLAIN_ONE, 0);
            x.act(1, act, PLAIN_ONE, 0);
            due("act " + act + " of what is lent", x.holds(2, SOLE_A, 0), 1);
        }
        Watched x = lent(SOLE_A, PLAIN_ONE, 0);
        x.lend(1, SOLE_A, PLAIN_THREE, 0);
        due("LEND", x.holds(2, SOLE_A, 0), 0);
        x.copy(1, SOLE_A, SOLE_B);
        due("COPY", x.holds(2, SOLE_A, 0), 0);
        x.lend(1, SOLE_B, PLAIN_THREE, 0);
        due("LEND to another", x.holds(2, SOLE_A, 0), 1);
        x.act(1, LET, SOLE_B, 0);
        due("LET of another", x.holds(2, SOLE_A, 0), 1);
        x.act(1, NOTHING, 0, 0);
        for (int p = 3; p < 149; p++) {
            x.next(p - 1, p, true);
        }
        due("as long as may be", x.holds(148, SOLE_A, 0), 1);
    }

    @Says("on several ways what it holds on any.")
    private static void terms_heldOnAnyOfSeveralWays() {
        Watched x = partAndMeet(allGiven());
        x.lend(1, SHARED_A, PLAIN_ONE, 0);
        x.lend(2, SHARED_A, PLAIN_THREE, 0);
        x.chain(3, 4);
        due("from the one way", x.holds(3, SHARED_A, 1), 1);
        due("from the other", x.holds(3, SHARED_A, 2), 1);
        due("not on the one", x.holds(1, SHARED_A, 2), 0);
        due("and not on the other", x.holds(2, SHARED_A, 1), 0);
        x.lend(3, SHARED_B, SHARED_A, BEHIND);
        due("handed on together", x.holds(4, SHARED_B, 1) + x.holds(4, SHARED_B, 2), 2);
        x.act(2, LET, SHARED_A, 0);
        due("given anew on one way", x.holds(3, SHARED_A, 1), 1);
        x.act(1, NOTHING, 0, 0);
        x.lend(0, SHARED_A, PLAIN_ONE, 0);
        due("from ahead, over one way", x.holds(3, SHARED_A, 0), 1);
        x.act(1, LET, SHARED_A, 0);
        due("given anew on all", x.holds(3, SHARED_A, 0), 0);
    }

    @Says("on several ways what it holds on any.")
    private static void terms_heldOnWaysThatComeBackWithLoans() {
        Watched x = allGiven();
        x.chain(0, 1, 2, 3);
        x.lend(2, SHARED_A, PLAIN_ONE, 0);
        due("no way back yet", x.holds(1, SHARED_A, 2), 0);
        x.next(3, 1, true);
        due("by the way back", x.holds(1, SHARED_A, 2), 1);
        due("at the point that lends", x.holds(2, SHARED_A, 2), 1);
        due("not ahead of the ring", x.holds(0, SHARED_A, 2), 0);
        x.copy(1, SHARED_B, SHARED_A);
        due("handed on in the second round", x.holds(2, SHARED_B, 2), 1);
        due("not ahead of the ring's first act", x.holds(0, SHARED_B, 2), 0);
        x.act(3, LET, SHARED_A, 0);
        due("given anew on the way back", x.holds(1, SHARED_A, 2), 0);
        due("nothing is handed on", x.holds(2, SHARED_B, 2), 0);
        x.next(2, 2, true);
        due("a ring of one point", x.holds(2, SHARED_A, 2), 1);
        Watched y = allGiven();
        y.lend(1, SHARED_A, PLAIN_ONE, 0);
        y.copy(2, SHARED_B, SHARED_A);
        int third = y.variable(1, 1);
        int fourth = y.variable(1, 1);
        y.copy(3, third, SHARED_B);
        y.copy(4, fourth, third);
        y.begins(third, true);
        y.chain(0, 4, 3, 2, 1, 4);
        due("around once for each", y.holds(4, SHARED_A, 1), 1);
        due("twice", y.holds(4, SHARED_B, 1), 1);
        due("three times", y.holds(4, third, 1), 1);
        due("four times", y.holds(4, fourth, 1), 1);
        due("point 0 is not in the ring", y.holds(0, SHARED_A, 1), 0);
    }

    @Says("When a REFERENCE is given anew (LET, too), all LOANS THROUGH it go from all that hold them (also from it).")
    private static void terms_loansThroughOneThatIsGivenAnewGoFromAll() {
        for (int how = 0; how < 5; how++) {
            Watched x = allGiven();
            int third = x.variable(2, 1);
            x.begins(third, true);
            x.chain(0, 1, 2, 3, 4, 5);
            x.lend(0, SOLE_A, PLAIN_ONE, 0);
            x.lend(1, SOLE_B, SOLE_A, path(BEHIND, 1));
            x.lend(2, SHARED_A, SOLE_B, BEHIND);
            x.copy(3, SHARED_B, SHARED_A);
            giveAnew(x, 4, SOLE_A, how, third);
            boolean anew = how < 4;
            String told = ", given anew by " + how;
            for (int holder : new int[] {SOLE_B, SHARED_A, SHARED_B}) {
                due("ahead of it" + told, x.holds(4, holder, 1), 1);
                due("behind it" + told, x.holds(5, holder, 1), anew ? 0 : 1);
                due("what is not through it stays" + told, x.holds(5, holder, 0), 1);
            }
            due("nor is it with it" + told, x.holds(5, SOLE_A, 1), 0);
            due("loans through another stay" + told, x.holds(5, SHARED_B, 2), 1);
        }
    }

    /** LET, LEND, COPY and LEND through itself give a sole one anew, the fifth way does not. */
    private static void giveAnew(Watched x, int p, int r, int how, int other) {
        if (how == 0) {
            x.act(p, LET, r, 0);
        } else if (how == 1) {
            x.lend(p, r, PLAIN_THREE, 0);
        } else if (how == 2) {
            x.copy(p, r, other);
        } else if (how == 3) {
            x.lend(p, r, r, BEHIND);
        } else {
            x.act(p, END, r, 0);
        }
    }

    @Says("When a REFERENCE is given anew (LET, too), all LOANS THROUGH it go from all that hold them (also from it).")
    private static void terms_loansThroughItGoAlsoFromItself() {
        Watched x = allGiven();
        x.chain(0, 1, 2, 3);
        x.lend(0, SOLE_A, PLAIN_ONE, 0);
        x.lend(1, SOLE_B, SOLE_A, path(BEHIND, 1));
        x.copy(2, SOLE_A, SOLE_B);
        due("held by the other one", x.holds(2, SOLE_B, 1), 1);
        due("not copied with the rest", x.holds(3, SOLE_A, 1), 0);
        due("nor kept by the other one", x.holds(3, SOLE_B, 1), 0);
        due("the rest is copied", x.holds(3, SOLE_A, 0), 1);
        x.lend(2, SOLE_A, SOLE_B, BEHIND);
        due("not handed on by LEND", x.holds(3, SOLE_A, 1), 0);
        due("the rest is handed on", x.holds(3, SOLE_A, 0), 1);
        due("and the new one", x.holds(3, SOLE_A, 2), 1);
        x.lend(2, SOLE_A, SOLE_A, path(BEHIND, 1));
        due("lent through itself it holds what it held", x.holds(3, SOLE_A, 0), 1);
        due("the loan itself goes", x.holds(3, SOLE_A, 2), 0);
        x.next(3, 1, true);
        x.copy(2, SOLE_A, SOLE_B);
        due("around and around", x.holds(1, SOLE_A, 1), 0);
        due("as before", x.holds(1, SOLE_A, 0), 1);
    }

    @Says("When a REFERENCE is given anew (LET, too), all LOANS THROUGH it go from all that hold them (also from it).")
    private static void terms_loansThatGoOnOneWayOnly() {
        Watched x = partAndMeet(allGiven());
        x.lend(0, SHARED_A, SOLE_A, BEHIND);
        x.act(1, LET, SOLE_A, 0);
        x.chain(3, 4);
        due("ahead of it on the one way", x.holds(1, SHARED_A, 0), 1);
        due("kept on the other way", x.holds(3, SHARED_A, 0), 1);
        x.act(2, LET, SOLE_A, 0);
        due("on no way", x.holds(3, SHARED_A, 0), 0);
        x.act(2, LET, SOLE_B, 0);
        due("another one is given anew", x.holds(3, SHARED_A, 0), 1);
        x.act(3, LET, SOLE_A, 0);
        due("behind the meeting", x.holds(4, SHARED_A, 0), 0);
        x.act(3, NOTHING, 0, 0);
        x.next(4, 0, true);
        due("on a way back", x.holds(0, SHARED_A, 0), 1);
        x.act(4, LET, SOLE_A, 0);
        due("gone on the way back", x.holds(0, SHARED_A, 0), 0);
    }

    @Says("(What a REFERENCE holds stays when it is TAKEN by COPY.)")
    private static void terms_whatATakenOneHoldsStays() {
        Watched x = lent(SOLE_A, PLAIN_ONE, 0);
        x.copy(1, SOLE_B, SOLE_A);
        due("it is taken", x.held(2, SOLE_A, 0), 0);
        due("it holds what it held", x.holds(2, SOLE_A, 0), 1);
        due("as the other one does", x.holds(2, SOLE_B, 0), 1);
        Watched y = lent(SHARED_A, PLAIN_ONE, 0);
        y.copy(1, SHARED_B, SHARED_A);
        due("a shared one, which is not taken", y.holds(2, SHARED_A, 0), 1);
    }

    // ---- uses, what is in force, and fault 4

    @Says("A REFERENCE is USED by a point whose PLACE goes THROUGH it, or that copies from it.")
    private static void terms_whoUsesAReference() {
        for (int act : new int[] {NOTHING, READ, GIVE, CHANGE, LET, END}) {
            Watched x = allGiven();
            x.chain(0, 1);
            x.act(1, act, SOLE_A, act == LET || act == END ? 0 : path(BEHIND, 1));
            boolean uses = act == READ || act == GIVE || act == CHANGE;
            due("act " + act, x.used(0, SOLE_A), uses ? 1 : 0);
            due("no other one", x.used(0, SOLE_B), 0);
        }
        Watched x = allGiven();
        x.chain(0, 1);
        x.lend(1, SHARED_A, SOLE_A, BEHIND);
        due("LEND through it", x.used(0, SOLE_A), 1);
        due("LEND to it", x.used(0, SHARED_A), 0);
        x.lend(1, SHARED_A, SHARED_B, BEHIND);
        due("LEND through a shared one", x.used(0, SHARED_B), 1);
        x.lend(1, SOLE_A, PLAIN_ONE, BEHIND);
        due("LEND of a plain one", x.used(0, SOLE_A), 0);
        x.copy(1, SOLE_B, SOLE_A);
        due("COPY from it", x.used(0, SOLE_A), 1);
        due("COPY to it", x.used(0, SOLE_B), 0);
        x.copy(1, SHARED_A, SHARED_B);
        due("COPY from a shared one", x.used(0, SHARED_B), 1);
        due("COPY to a shared one", x.used(0, SHARED_A), 0);
    }

    @Says("A LOAN is IN FORCE at a point if a REFERENCE that HOLDS it there, ahead of its ACT, is USED by a point behind it"
            + " on some way, before it is given anew")
    private static void terms_inForceFromHoldingToTheLastUse() {
        Watched x = allGiven();
        x.chain(0, 1, 2, 3, 4, 5);
        x.lend(1, SOLE_A, PLAIN_ONE, 0);
        x.act(3, READ, SOLE_A, BEHIND);
        int[] want = {0, 0, 1, 0, 0, 0};
        for (int p = 0; p <= 5; p++) {
            due("at " + p, x.force(1, p), want[p]);
        }
        x.act(5, CHANGE, SOLE_A, BEHIND);
        due("ahead of a later use", x.force(1, 3), 1);
        due("and behind the first", x.force(1, 4), 1);
        due("not at the last use", x.force(1, 5), 0);
        x.act(4, LET, SOLE_A, 0);
        due("given anew before that use", x.force(1, 3), 0);
        due("ahead of the first use all the same", x.force(1, 2), 1);
        x.act(3, READ, SOLE_B, BEHIND);
        due("another one is used", x.force(1, 2), 0);
        x.lend(3, SOLE_A, SOLE_A, BEHIND);
        due("used by the LEND that then gives it anew", x.force(1, 2), 1);
        x.copy(3, SOLE_B, SOLE_A);
        due("used by COPY", x.force(1, 2), 1);
        x.copy(3, SOLE_A, SOLE_B);
        due("given anew by COPY", x.force(1, 2), 0);
    }

    @Says("A LOAN is IN FORCE at a point if a REFERENCE that HOLDS it there, ahead of its ACT, is USED by a point behind it"
            + " on some way, before it is given anew")
    private static void terms_inForceOnWaysThatPartAndMeet() {
        Watched x = allGiven();
        x.lend(0, SOLE_A, PLAIN_ONE, 0);
        x.chain(0, 1, 2, 4);
        x.chain(1, 3, 4);
        x.act(3, READ, SOLE_A, BEHIND);
        due("used on one of two ways", x.force(0, 1), 1);
        due("on the other one not", x.force(0, 2), 0);
        x.act(3, LET, SOLE_A, 0);
        due("on no way", x.force(0, 1), 0);
        x.act(4, READ, SOLE_A, BEHIND);
        due("given anew on one way, used where they meet", x.force(0, 1), 1);
        due("on the way without LET", x.force(0, 2), 1);
        due("at the LET", x.force(0, 3), 0);
        due("at the use", x.force(0, 4), 0);
        x.act(2, LET, SOLE_A, 0);
        due("given anew on both", x.force(0, 1), 0);
        x.act(2, NOTHING, 0, 0);
        x.act(3, NOTHING, 0, 0);
        x.act(4, NOTHING, 0, 0);
        x.act(5, READ, SOLE_A, BEHIND);
        x.chain(4, 5);
        due("held on any way, used behind the meeting", x.force(0, 4), 1);
        x.act(3, LET, SOLE_A, 0);
        due("held on one way only", x.force(0, 4), 1);
    }

    @Says("A LOAN is IN FORCE at a point if a REFERENCE that HOLDS it there, ahead of its ACT, is USED by a point behind it"
            + " on some way, before it is given anew")
    private static void terms_inForceOnWaysThatComeBack() {
        Watched x = allGiven();
        x.lend(0, SOLE_A, PLAIN_ONE, 0);
        x.act(2, READ, SOLE_A, BEHIND);
        x.chain(0, 1, 2, 3);
        due("at the only use", x.force(0, 2), 0);
        x.next(3, 1, true);
        for (int p = 1; p <= 3; p++) {
            due("in the ring at " + p, x.force(0, p), 1);
        }
        due("ahead of the ring nothing is held", x.force(0, 0), 0);
        x.act(3, LET, SOLE_A, 0);
        due("given anew on the way back: at the use", x.force(0, 2), 0);
        due("ahead of it", x.force(0, 1), 1);
        x.act(3, NOTHING, 0, 0);
        x.next(3, 1, false);
        x.next(2, 2, true);
        due("used by this point again", x.force(0, 2), 1);
        x.next(2, 2, false);
        x.next(3, 0, true);
        due("back to the one that lends: it gives anew", x.force(0, 3), 0);
        x.lend(0, SOLE_A, SOLE_A, BEHIND);
        x.lend(3, SOLE_A, PLAIN_THREE, 0);
        due("the loan through itself", x.force(0, 1), 0);
        due("what it held is handed on", x.force(3, 1), 1);
        due("not at the point that gives it anew", x.force(3, 0), 0);
    }

    @Says("A LOAN is IN FORCE at a point if a REFERENCE that HOLDS it there, ahead of its ACT, is USED by a point behind it"
            + " on some way, before it is given anew")
    private static void terms_inForceByAnyOfSeveralHolders() {
        Watched x = allGiven();
        x.lend(0, SHARED_A, PLAIN_ONE, 0);
        x.copy(1, SHARED_B, SHARED_A);
        x.chain(0, 1, 2, 3, 4);
        x.act(3, READ, SHARED_B, BEHIND);
        due("the copy is used", x.force(0, 2), 1);
        due("where only the first one holds it: that is used by COPY itself", x.force(0, 1), 0);
        x.act(3, READ, SHARED_A, BEHIND);
        due("the first one is used", x.force(0, 2), 1);
        x.act(2, LET, SHARED_A, 0);
        due("it is given anew", x.force(0, 2), 0);
        due("ahead of that", x.force(0, 1), 0);
        x.act(4, READ, SHARED_B, BEHIND);
        due("the other one is used", x.force(0, 2), 1);
        due("behind LET of the first", x.force(0, 3), 1);
    }

    @Says("(the point's own LEND, COPY or LET give anew, too).")
    private static void terms_thePointsOwnActGivesAnew() {
        for (int how = 0; how < 5; how++) {
            Watched x = lent(SOLE_A, PLAIN_ONE, 0);
            giveAnew(x, 1, SOLE_A, how, SOLE_B);
            due("held ahead of it", x.holds(1, SOLE_A, 0), 1);
            due("used behind it", x.used(1, SOLE_A), 1);
            due("in force at " + how, x.force(0, 1), how < 4 ? 0 : 1);
        }
        Watched y = lent(SOLE_A, PLAIN_ONE, 0);
        y.lend(1, SOLE_A, PLAIN_ONE, 0);
        due("so LEND of the same place anew does not clash", y.judge(), 0);
        y.lend(1, SOLE_B, PLAIN_ONE, 0);
        due("as LEND to another one does", y.judge(), 4);
    }

    @Says("It CLASHES with the point's ACT on a PLACE (or END, of the whole variable) of the same variable if one of both"
            + " PATHS begins with the other and:")
    private static void terms_clashesOfPaths() {
        int[][] rows = {{0, 0, 1}, {0, 1, 1}, {0, path(6, 5, 4, 3), 1}, {1, 0, 1}, {1, 1, 1}, {1, 2, 0}, {1, path(1, 2), 1},
            {path(1, 2), 1, 1}, {path(1, 2), path(1, 3), 0}, {path(1, 2), path(2, 2), 0}, {path(1, 2), 2, 0},
            {path(1, 2, 3, 4), path(1, 2, 3), 1}, {path(1, 2, 3), path(1, 2, 3, 4), 1},
            {path(1, 2, 3, 4), path(1, 2, 3, 4), 1}, {path(1, 2, 3, 4), path(1, 2, 3, 1), 0},
            {path(1, 2, 3, 4), path(1, 2, 1, 4), 0}, {6, path(6, 1), 1}, {path(6, 1), path(6, 2), 0}, {5, 6, 0}};
        for (int[] row : rows) {
            Watched x = lent(SOLE_A, PLAIN_ONE, row[0]);
            String told = "lent " + row[0] + ", act on " + row[1];
            for (int act : new int[] {READ, GIVE, CHANGE}) {
                x.act(1, act, PLAIN_ONE, row[1]);
                due(told + ", act " + act, x.count(5), row[2]);
                x.act(1, act, SOLE_B, path(BEHIND, 1));
                due("another variable", x.count(5), 0);
            }
            x.lend(1, SHARED_B, PLAIN_ONE, row[1]);
            due(told + ", LEND", x.count(5), row[2]);
            x.act(1, END, PLAIN_ONE, row[1]);
            due(told + ", END of the whole", x.count(5), 1);
            x.act(1, END, PLAIN_THREE, 0);
            due("END of another", x.count(5), 0);
        }
        Watched y = lent(SHARED_A, SOLE_A, path(BEHIND, 1));
        y.act(1, GIVE, SOLE_A, BEHIND);
        due("through a reference", y.count(5), 1);
        y.act(1, GIVE, SOLE_A, path(BEHIND, 2));
        due("another place behind it", y.count(5), 0);
        y.act(1, GIVE, SOLE_B, path(BEHIND, 1));
        due("behind another", y.count(5), 0);
    }

    @Says("It CLASHES with the point's ACT on a PLACE (or END, of the whole variable) of the same variable if one of both"
            + " PATHS begins with the other and:")
    private static void terms_onlyActsOnPlacesAndEndClash() {
        for (int to : new int[] {SHARED_A, SOLE_A}) {
            Watched x = lent(to, PLAIN_THREE, 2);
            for (int act : new int[] {NOTHING, LET}) {
                x.act(1, act, PLAIN_THREE, 0);
                due("in force", x.force(0, 1), 1);
                due("act " + act, x.count(5), 0);
            }
            x.act(1, MOVE, PLAIN_THREE, 0);
            due("MOVE of all", x.count(5), 1);
            x.act(1, MOVE, PLAIN_THREE, 2);
            due("MOVE of the leaf", x.count(5), 1);
            x.act(1, MOVE, PLAIN_THREE, 1);
            due("MOVE of another leaf", x.count(5), 0);
            x.act(1, END, PLAIN_THREE, 0);
            due("END", x.count(5), 1);
            x.act(2, NOTHING, 0, 0);
            due("END of what is no longer in force", x.count(5), 0);
        }
    }

    @Says("the LOAN is SOLE, or the ACT is neither READ nor LEND to a SHARED one;")
    private static void terms_clashesOfSharedAndSoleLoans() {
        for (int to : new int[] {SHARED_A, SOLE_A}) {
            int sole = to == SOLE_A ? 1 : 0;
            Watched x = lent(to, PLAIN_ONE, 0);
            for (int act : new int[] {READ, MOVE, GIVE, CHANGE, END}) {
                x.act(1, act, PLAIN_ONE, 0);
                due("act " + act + " beside a loan to " + to, x.count(5), act == READ ? sole : 1);
            }
            x.lend(1, SHARED_B, PLAIN_ONE, 0);
            due("LEND to a shared one beside a loan to " + to, x.count(5), sole);
            x.lend(1, SOLE_B, PLAIN_ONE, 0);
            due("LEND to a sole one beside a loan to " + to, x.count(5), 1);
        }
    }

    @Says("END of a REFERENCE clashes with none,")
    private static void terms_endOfAReferenceClashesWithNone() {
        for (int to : new int[] {SHARED_A, SOLE_A}) {
            Watched x = lent(to, SOLE_B, BEHIND);
            x.act(1, END, SOLE_B, 0);
            due("in force", x.force(0, 1), 1);
            due("END", x.count(5), 0);
            x.act(1, CHANGE, SOLE_B, BEHIND);
            due("CHANGE", x.count(5), 1);
        }
    }

    @Says("and COPY from a SOLE one is like a MOVE of it, from a SHARED one like a READ.")
    private static void terms_copyIsLikeAMoveOrARead() {
        for (int path : new int[] {BEHIND, path(BEHIND, 3), path(BEHIND, 1, 2, 3)}) {
            Watched x = lent(SHARED_A, SOLE_B, path);
            x.copy(1, SOLE_A, SOLE_B);
            due("from a sole one", x.count(5), 1);
            due("a fault 4", x.judge(), 4);
            x.copy(1, SOLE_B, SOLE_A);
            due("to it", x.count(5), 0);
        }
        Watched y = lent(SHARED_A, PLAIN_ONE, 0);
        y.copy(1, SHARED_B, SHARED_A);
        due("from a shared one", y.count(5), 0);
        Watched z = lent(SHARED_A, SHARED_B, BEHIND);
        int third = z.variable(1, 1);
        z.copy(1, third, SHARED_B);
        due("from a shared one that is lent through", z.judge(), 0);
    }

    @Says("FAULT 4, if there is no FAULT 3: the least point that clashes;")
    private static void terms_theLeastPointOfFault4() {
        Watched x = allGiven();
        x.lend(0, SHARED_A, PLAIN_ONE, 0);
        x.act(9, READ, SHARED_A, BEHIND);
        x.chain(0, 7, 3, 5, 2, 9);
        due("none", x.judge(), 0);
        x.act(5, CHANGE, PLAIN_ONE, 0);
        due("judge", x.judge(), 4);
        due("the only one", x.fault(1), 5);
        x.act(7, CHANGE, PLAIN_ONE, 0);
        due("a greater one ahead of it", x.fault(1), 5);
        x.act(3, GIVE, PLAIN_ONE, 0);
        due("a lesser one ahead of it", x.fault(1), 3);
        x.act(2, END, PLAIN_ONE, 0);
        due("a lesser one behind it", x.fault(1), 2);
        x.act(1, CHANGE, PLAIN_ONE, 0);
        due("a lesser one that no way comes to", x.fault(1), 2);
        due("of four", x.count(5), 4);
        x.begins(SOLE_A, false);
        x.act(149, READ, SOLE_A, BEHIND);
        x.chain(9, 149);
        due("a fault 3 goes ahead", x.judge(), 3);
        due("whatever its point", x.fault(1), 149);
        due("and its other point", x.fault(2), NONE);
        x.begins(SOLE_A, true);
        due("mended", x.judge(), 4);
        due("as before", x.fault(1), 2);
    }

    @Says("its other point: the least one whose LOAN clashes with it.")
    private static void terms_theLeastLoanOfFault4() {
        Watched x = allGiven();
        x.lend(8, SHARED_A, PLAIN_ONE, 1);
        x.lend(4, SHARED_B, PLAIN_ONE, 2);
        x.lend(6, SOLE_A, PLAIN_ONE, 3);
        x.act(5, CHANGE, PLAIN_ONE, 0);
        x.act(10, READ, SHARED_A, BEHIND);
        x.act(11, READ, SHARED_B, BEHIND);
        x.act(12, READ, SOLE_A, BEHIND);
        x.chain(0, 8, 4, 6, 5, 10, 11, 12);
        due("the point", x.fault(1), 5);
        due("the least of three", x.fault(2), 4);
        x.act(5, CHANGE, PLAIN_ONE, 1);
        due("the one of that path", x.fault(2), 8);
        x.act(5, READ, PLAIN_ONE, 0);
        due("the sole one", x.fault(2), 6);
        x.act(5, END, PLAIN_ONE, 0);
        x.act(11, NOTHING, 0, 0);
        due("the least that is in force", x.fault(2), 6);
        x.lend(6, SOLE_A, PLAIN_THREE, 0);
        due("the one of that variable", x.fault(2), 8);
        x.lend(9, SHARED_B, PLAIN_ONE, 0);
        x.act(11, READ, SHARED_B, BEHIND);
        x.next(0, 9, true);
        x.next(9, 5, true);
        due("a greater one on another way", x.fault(2), 4);
        x.act(4, NOTHING, 0, 0);
        due("of two ways that meet", x.fault(2), 8);
        x.act(10, NOTHING, 0, 0);
        due("the one from the other way", x.fault(2), 9);
    }

    @Says("its other point: the least one whose LOAN clashes with it.")
    private static void terms_aLoanThatClashesWithItsOwnPoint() {
        Watched x = allGiven();
        x.lend(3, SOLE_A, PLAIN_ONE, 0);
        x.copy(4, SOLE_B, SOLE_A);
        x.act(5, READ, SOLE_B, BEHIND);
        x.chain(0, 3, 4, 3);
        x.chain(3, 5);
        due("held by another one on a way back", x.holds(3, SOLE_B, 3), 1);
        due("its own point", x.fault(1), 3);
        due("its own loan", x.fault(2), 3);
        x.act(4, NOTHING, 0, 0);
        due("held by none but the one it is lent to anew", x.judge(), 0);
    }

    @Says("NONE, changing nothing: no such variable, point, PLACE, or what an ACT may not be.")
    private static void terms_noneAndNothingIsChanged() {
        for (int v : new int[] {-1, Cases.USUAL_VARIABLES}) {
            Cases.refused("begins", x -> x.begins(v, true));
            Cases.refused("LET", x -> x.act(3, LET, v, 0));
            Cases.refused("LEND of it", x -> x.lend(3, SHARED_A, v, 0));
            Cases.refused("LEND to it", x -> x.lend(3, v, PLAIN_ONE, 0));
            Cases.refused("COPY to it", x -> x.copy(3, v, SHARED_A));
            Cases.refused("COPY from it", x -> x.copy(3, SHARED_A, v));
        }
        for (int p : new int[] {-1, 150}) {
            Cases.refused("nothing", x -> x.act(p, NOTHING, 0, 0));
            Cases.refused("READ", x -> x.act(p, READ, PLAIN_ONE, 0));
            Cases.refused("LEND", x -> x.lend(p, SHARED_A, PLAIN_ONE, 0));
            Cases.refused("COPY", x -> x.copy(p, SHARED_A, SHARED_B));
            Cases.refused("next to it", x -> x.next(p, 0, true));
            Cases.refused("it is not next", x -> x.next(0, p, false));
        }
        Cases.refusedAtEach("no place", (x, p) -> x.act(p, READ, PLAIN_THREE, 4));
        Cases.refusedAtEach("no place to lend", (x, p) -> x.lend(p, SHARED_A, PLAIN_THREE, 7));
        Cases.refusedAtEach("what MOVE may not be", (x, p) -> x.act(p, MOVE, PLAIN_THREE, path(1, 1)));
        Cases.refusedAtEach("what GIVE may not be", (x, p) -> x.act(p, GIVE, SHARED_A, BEHIND));
        Cases.refusedAtEach("what LEND may not be", (x, p) -> x.lend(p, SOLE_A, SHARED_A, BEHIND));
        Cases.refusedAtEach("what COPY may not be", (x, p) -> x.copy(p, SOLE_A, SHARED_A));
    }

    public static void main(String[] args) throws Exception {
        Sentences.areAllQuoted("Terms", TermsTest.class, "terms_");
        Cases.run(TermsTest.class);
    }
}
