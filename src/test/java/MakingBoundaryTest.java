import java.util.function.Supplier;

/** The boundary cases of promises 1 to 7, the calls that make and change; one method for each case. */
public final class MakingBoundaryTest {
    private static final int NONE = Cases.NONE;
    private static final int NOTHING = Cases.NOTHING;
    private static final int READ = Cases.READ;
    private static final int MOVE = Cases.MOVE;
    private static final int GIVE = Cases.GIVE;
    private static final int CHANGE = Cases.CHANGE;
    private static final int LET = Cases.LET;
    private static final int END = Cases.END;
    private static final int BEHIND = Cases.BEHIND;
    private static final int MIN = Cases.MIN;
    private static final int MAX = Cases.MAX;
    private static final int PLAIN_ONE = Cases.PLAIN_ONE;
    private static final int PLAIN_THREE = Cases.PLAIN_THREE;
    private static final int SHARED_A = Cases.SHARED_A;
    private static final int SHARED_B = Cases.SHARED_B;
    private static final int SOLE_A = Cases.SOLE_A;
    private static final int SOLE_B = Cases.SOLE_B;

    private static final int[] NO_POINTS = {-1, 150, -150, 151, MIN, MAX};
    private static final int[] NO_VARIABLES = {-1, Cases.USUAL_VARIABLES, 15, 16, 17, MIN, MAX};
    private static final int[] FEW_POINTS = {0, 1, 149};
    private static final int[] ON_PLACES = {READ, MOVE, GIVE, CHANGE};

    private static void due(String what, int got, int want) {
        Cases.due(what, got, want);
    }

    private static int path(int... digits) {
        return Cases.path(digits);
    }

    // ---- promise 1: a new object

    private static void promise1_askedBeforeAnythingIsMade() {
        Watched x = new Watched();
        due("judge", x.judge(), 0);
        due("fault 1", x.fault(1), NONE);
        due("fault 2", x.fault(2), NONE);
        for (int what = 0; what <= 5; what++) {
            due("count " + what, x.count(what), what == 2 ? 1 : 0);
        }
        for (int p : new int[] {0, 1, 148, 149}) {
            due("comes " + p, x.comes(p), p == 0 ? 1 : 0);
            due("held " + p, x.held(p, 0, 0), NONE);
            due("holds " + p, x.holds(p, 0, 0), NONE);
            due("used " + p, x.used(p, 0), NONE);
            due("force " + p, x.force(p, 0), NONE);
        }
    }

    private static void promise1_noVariableToActOn() {
        Supplier<Watched> make = Watched::new;
        for (int act = READ; act <= END; act++) {
            int asked = act;
            Cases.refused(make, FEW_POINTS, "act " + act, x -> x.act(0, asked, 0, 0));
        }
        Cases.refused(make, FEW_POINTS, "begins", x -> x.begins(0, true));
        Cases.refused(make, FEW_POINTS, "lend", x -> x.lend(0, 0, 0, 0));
        Cases.refused(make, FEW_POINTS, "lend", x -> x.lend(0, 1, 0, 0));
        Cases.refused(make, FEW_POINTS, "copy", x -> x.copy(0, 0, 1));
    }

    private static void promise1_noVariableIsNeededForNothingAndNext() {
        Watched x = new Watched();
        due("nothing", x.act(0, NOTHING, 0, 0), 1);
        due("next", x.next(0, 149, true), 1);
        due("comes", x.comes(149), 1);
    }

    private static void promise1_noPointHasAnAct() {
        Watched x = Cases.variables();
        for (int p = 0; p < 149; p++) {
            x.next(p, p + 1, true);
        }
        due("all points", x.count(2), 150);
        for (int what : new int[] {1, 3, 4, 5}) {
            due("count " + what, x.count(what), 0);
        }
        for (int p = 0; p < 150; p++) {
            due("no loan at " + p, x.force(p, 0), NONE);
        }
        due("the last point holds what began", x.held(149, PLAIN_THREE, 2), 1);
        due("and nothing else", x.held(149, SOLE_A, 0), 0);
    }

    private static void promise1_objectsAreApart() {
        Watched x = new Watched();
        Watched y = Cases.usual();
        due("variables", x.count(0), 0);
        due("points", x.count(2), 1);
        due("variables of the other", y.count(0), Cases.USUAL_VARIABLES);
    }

    private static void promise1_the512thCallIsAnswered() {
        Watched x = Cases.usual();
        while (x.calls() < Watched.MOST_CALLS - 2) {
            x.next(8, 5, x.calls() % 2 == 0);
        }
        due("the 511th", x.next(8, 5, false), 1);
        due("the 512th", x.count(2), Cases.USUAL_POINTS.length);
    }

    /** Their answers are free, but none may throw, which would make this case wrong. */
    private static void promise1_callsBehindThe512thEnd() {
        LoanWays x = new LoanWays();
        for (int i = 0; i < 5000; i++) {
            x.variable(i % 3, 1);
            x.lend(i % 150, 1, 0, 0);
            x.next(i % 150, (i * 7 + 1) % 150, true);
            x.count(i % 7);
            x.fault(2);
        }
    }

    // ---- promise 2: variable

    private static void promise2_the16thVariableAndTheOneAfterIt() {
        Watched x = new Watched();
        for (int v = 0; v < 15; v++) {
            due("variable " + v, x.variable(v % 3, 1), v);
        }
        due("the 16th", x.variable(0, 4), 15);
        due("its last leaf", x.held(0, 15, 3), 0);
        for (int sort = 0; sort <= 2; sort++) {
            int asked = sort;
            Cases.refusedOnFull("a 17th of sort " + sort, y -> y.variable(asked, 1));
        }
        Cases.refusedOnFull("a wrong 17th", y -> y.variable(3, 1));
    }

    private static void promise2_plainOf0And1And4And5Leaves() {
        for (int leaves : new int[] {0, 5, -1, 6, MIN, MAX}) {
            Cases.refused("plain of " + leaves, x -> x.variable(0, leaves));
        }
        for (int leaves = 1; leaves <= 4; leaves++) {
            Watched x = new Watched();
            due("plain of " + leaves, x.variable(0, leaves), 0);
            due("its last leaf", x.held(0, 0, leaves - 1), 0);
            due("no leaf behind it", x.held(0, 0, leaves), NONE);
        }
    }

    private static void promise2_aReferenceOfAnotherNumberThan1() {
        for (int leaves : new int[] {0, 2, -1, 4, 5, MIN, MAX}) {
            Cases.refused("shared of " + leaves, x -> x.variable(1, leaves));
            Cases.refused("sole of " + leaves, x -> x.variable(2, leaves));
        }
        for (int sort = 1; sort <= 2; sort++) {
            Watched x = new Watched();
            due("a reference of 1", x.variable(sort, 1), 0);
            due("its leaf", x.held(0, 0, 0), 0);
            due("no other leaf", x.held(0, 0, 1), NONE);
            due("it is a reference", x.used(0, 0), 0);
        }
    }

    private static void promise2_sortsBelow0AndAbove2() {
        for (int sort : new int[] {-1, 3, 4, MIN, MAX}) {
            Cases.refused("sort " + sort, x -> x.variable(sort, 1));
        }
    }

    private static void promise2_aRefusedOneTakesNoNumber() {
        Watched x = new Watched();
        due("the first", x.variable(0, 2), 0);
        due("refused", x.variable(0, 5), NONE);
        due("refused", x.variable(1, 2), NONE);
        due("refused", x.variable(3, 1), NONE);
        due("the second", x.variable(1, 1), 1);
        due("variables", x.count(0), 2);
    }

    private static void promise2_aNewVariableChangesNoOther() {
        Watched x = Cases.usual();
        int pairs = x.count(3);
        due("a new one", x.variable(0, 4), 6);
        due("pairs", x.count(3), pairs);
        due("not given", x.held(0, 6, 3), 0);
        due("the others", x.held(3, PLAIN_THREE, 2), 2);
    }

    // ---- promise 3: begins

    private static void promise3_noSuchVariable() {
        for (int v : NO_VARIABLES) {
            Cases.refused("begins " + v, x -> x.begins(v, true));
            Cases.refused("begins not " + v, x -> x.begins(v, false));
        }
    }

    private static void promise3_theVariableBehindThe16th() {
        Cases.refusedOnFull("begins 16", x -> x.begins(16, true));
        Cases.refusedOnFull("begins not 16", x -> x.begins(16, false));
        Cases.refusedOnFull("begins -1", x -> x.begins(-1, true));
        due("the 16th", Cases.full().begins(15, true), 1);
    }

    private static void promise3_notGivenAtFirst() {
        Watched x = new Watched();
        for (int v = 0; v < 3; v++) {
            x.variable(v, 1);
            due("variable " + v, x.held(0, v, 0), 0);
        }
    }

    private static void promise3_allFourLeavesOfTheLastVariable() {
        Watched x = new Watched();
        for (int v = 0; v < 16; v++) {
            x.variable(0, 4);
        }
        due("given", x.begins(15, true), 1);
        for (int leaf = 0; leaf < 4; leaf++) {
            due("leaf " + leaf, x.held(0, 15, leaf), 1);
            due("the one ahead, leaf " + leaf, x.held(0, 14, leaf), 0);
            due("the first one, leaf " + leaf, x.held(0, 0, leaf), 0);
        }
        due("not given", x.begins(15, false), 1);
        due("the first leaf", x.held(0, 15, 0), 0);
        due("the last leaf", x.held(0, 15, 3), 0);
    }

    private static void promise3_theFirstVariableAndAReference() {
        Watched x = Cases.variables();
        due("variable 0 is not", x.begins(0, false), 1);
        due("it is not", x.held(0, 0, 0), 0);
        due("the next one stays", x.held(0, 1, 0), 1);
        due("a sole reference", x.begins(SOLE_B, true), 1);
        due("it is given", x.held(0, SOLE_B, 0), 1);
        due("a shared one", x.begins(SHARED_A, true), 1);
        due("it is given", x.held(0, SHARED_A, 0), 1);
    }

    private static void promise3_whatIsSoAlready() {
        Watched x = Cases.variables();
        due("given again", x.begins(PLAIN_ONE, true), 1);
        due("given", x.held(0, PLAIN_ONE, 0), 1);
        due("not given again", x.begins(SOLE_A, false), 1);
        due("not given", x.held(0, SOLE_A, 0), 0);
    }

    private static void promise3_theBeginningIsNotEachTimeAtPoint0() {
        Watched x = Cases.variables();
        x.act(0, MOVE, PLAIN_ONE, 0);
        x.chain(0, 1, 0);
        due("at the beginning, not on the way back", x.held(0, PLAIN_ONE, 0), 2);
        due("behind it", x.held(1, PLAIN_ONE, 0), 0);
    }

    // ---- promise 4: act

    private static void promise4_pointsMinus1And0And149And150() {
        for (int p : NO_POINTS) {
            for (int act = NOTHING; act <= END; act++) {
                int asked = act;
                Cases.refused("act " + act + " at " + p, x -> x.act(p, asked, PLAIN_ONE, 0));
            }
        }
        Watched x = Cases.variables();
        due("point 0", x.act(0, READ, SOLE_A, BEHIND), 1);
        due("it reads", x.fault(1), 0);
        due("nothing at point 0", x.act(0, NOTHING, 0, 0), 1);
        due("point 149", x.act(149, READ, SOLE_A, BEHIND), 1);
        x.chain(0, 149);
        due("it reads", x.fault(1), 149);
    }

    private static void promise4_actsBelow0AndAbove6() {
        for (int act : new int[] {-1, 7, 8, 9, MIN, MAX}) {
            Cases.refusedAtEach("act " + act, (x, p) -> x.act(p, act, PLAIN_ONE, 0));
        }
        Watched x = Cases.variables();
        for (int act = NOTHING; act <= END; act++) {
            due("act " + act, x.act(0, act, PLAIN_ONE, 0), 1);
        }
    }

    private static void promise4_nothingWithAnyVariableAndPath() {
        int[][] any = {{-1, -1}, {16, 4096}, {MIN, MIN}, {MAX, MAX}, {PLAIN_THREE, 7}, {SOLE_A, 1}, {6, 0}};
        for (int[] a : any) {
            Watched x = Cases.usual();
            due("there is a loan", x.force(0, 1), 1);
            due("nothing", x.act(0, NOTHING, a[0], a[1]), 1);
            due("the act has gone", x.force(0, 1), NONE);
            due("without variables too", new Watched().act(149, NOTHING, a[0], a[1]), 1);
        }
    }

    private static void promise4_letWithAnyPath() {
        for (int any : new int[] {0, -1, 7, 8, 4096, path(4, 0, 1), MIN, MAX}) {
            Watched x = Cases.variables();
            x.chain(0, 1);
            due("LET with path " + any, x.act(0, LET, PLAIN_THREE, any), 1);
            for (int leaf = 0; leaf < 3; leaf++) {
                due("leaf " + leaf + " is taken", x.held(1, PLAIN_THREE, leaf), 0);
            }
            x.begins(SHARED_A, true);
            due("LET of a reference with path " + any, x.act(0, LET, SHARED_A, any), 1);
            due("it is taken", x.held(1, SHARED_A, 0), 0);
        }
    }

    private static void promise4_endWithAnyPath() {
        for (int any : new int[] {0, 2, -1, 7, 8, 4096, MIN, MAX}) {
            Watched x = Cases.variables();
            x.lend(0, SHARED_A, PLAIN_THREE, 1);
            due("END with path " + any, x.act(1, END, PLAIN_THREE, any), 1);
            x.act(2, READ, SHARED_A, BEHIND);
            x.chain(0, 1, 2);
            due("it ends the whole variable", x.fault(1), 1);
            due("END of a reference with path " + any, x.act(1, END, SOLE_A, any), 1);
            due("it does nothing", x.judge(), 0);
        }
    }

    private static void promise4_noSuchVariable() {
        for (int v : NO_VARIABLES) {
            for (int act = READ; act <= END; act++) {
                int asked = act;
                Cases.refused("act " + act + " of " + v, x -> x.act(3, asked, v, 0));
                Cases.refused("act " + act + " behind " + v, x -> x.act(3, asked, v, BEHIND));
            }
        }
    }

    private static void promise4_theVariableBehindThe16th() {
        for (int act = READ; act <= END; act++) {
            int asked = act;
            Cases.refusedOnFull("act " + act + " of 16", x -> x.act(5, asked, 16, 0));
            Cases.refusedOnFull("act " + act + " behind 16", x -> x.act(5, asked, 16, BEHIND));
            Cases.refusedOnFull("act " + act + " of -1", x -> x.act(5, asked, -1, 0));
        }
    }

    private static void promise4_the16thVariable() {
        Watched x = new Watched();
        for (int v = 0; v < 16; v++) {
            x.variable(0, 4);
        }
        due("the last leaf of the last variable", x.act(0, MOVE, 15, 4), 1);
        due("it is wanted", x.fault(1), 0);
        x.begins(15, true);
        x.chain(0, 1);
        due("it is held", x.judge(), 0);
        due("it is taken", x.held(1, 15, 3), 0);
        due("the leaf ahead is not", x.held(1, 15, 2), 1);
    }

    private static void promise4_pathsOfFourDigits() {
        int[] good = {path(1, 1, 1, 1), path(6, 6, 6, 6), path(5, 5, 5, 5), path(1, 2, 3, 4), path(4, 6, 5, 1)};
        for (int path : good) {
            Watched x = Cases.variables();
            for (int act : new int[] {READ, GIVE, CHANGE}) {
                due("act " + act + " of " + path, x.act(0, act, PLAIN_ONE, path), 1);
            }
        }
        Watched x = Cases.variables();
        due("of several leaves", x.act(0, READ, PLAIN_THREE, path(3, 6, 6, 6)), 1);
        due("of a reference", x.act(0, READ, SOLE_A, path(BEHIND, 6, 6, 6)), 1);
    }

    private static void promise4_pathsOfMoreThanFourDigits() {
        int[] bad = {path(1, 1, 1, 1, 1), path(6, 6, 6, 6, 6), path(1, 1, 1, 1, 1, 1), path(0, 0, 0, 0, 1),
            path(1, 0, 0, 0, 1), path(1, 1, 1, 1, 0, 1), MAX};
        for (int path : bad) {
            refusedOnAllPlaces(path);
        }
        for (int first = 1; first <= 3; first++) {
            refusedOnAllPlaces(path(first, 1, 1, 1, 1));
        }
        refusedOnAllPlaces(path(BEHIND, 1, 1, 1, 1));
        refusedOnAllPlaces(path(BEHIND, 0, 0, 0, 1));
    }

    private static void promise4_pathsWithA0AheadOfADigit() {
        int[] bad = {path(0, 1), path(0, 0, 1), path(0, 0, 0, 1), path(1, 0, 1), path(1, 0, 0, 1), path(1, 1, 0, 1),
            path(0, 5), path(5, 0, 5), path(5, 0, 0, 1), path(5, 1, 0, 6), path(0, 1, 0, 1)};
        for (int path : bad) {
            refusedOnAllPlaces(path);
        }
    }

    private static void promise4_pathsWithTheDigit7() {
        int[] bad = {7, path(1, 7), path(1, 1, 7), path(1, 1, 1, 7), path(7, 1), path(7, 7, 7, 7), path(5, 7),
            path(5, 5, 7), path(5, 5, 5, 7), path(1, 7, 1), path(5, 7, 1, 1)};
        for (int path : bad) {
            refusedOnAllPlaces(path);
        }
    }

    private static void promise4_pathsBelow0() {
        for (int path : new int[] {-1, -2, -3, -5, -8, -4091, -4095, -4096, MIN, MIN + 1, MIN + BEHIND}) {
            refusedOnAllPlaces(path);
        }
    }

    private static void refusedOnAllPlaces(int path) {
        for (int v = 0; v < Cases.USUAL_VARIABLES; v++) {
            for (int act : ON_PLACES) {
                int of = v;
                Cases.refused("act " + act + " of " + v + ", " + path, x -> x.act(2, act, of, path));
            }
        }
    }

    private static void promise4_aReferenceWhoseFirstDigitIsNot5() {
        for (int first : new int[] {1, 2, 3, 4, 6}) {
            for (int path : new int[] {first, path(first, BEHIND), path(first, 1, 1, 1)}) {
                for (int v = SHARED_A; v <= SOLE_B; v++) {
                    int of = v;
                    Cases.refused("READ of " + v + ", " + path, x -> x.act(1, READ, of, path));
                    Cases.refused("GIVE of " + v + ", " + path, x -> x.act(1, GIVE, of, path));
                    Cases.refused("CHANGE of " + v + ", " + path, x -> x.act(1, CHANGE, of, path));
                }
            }
        }
    }

    private static void promise4_theFirstDigitOfSeveralLeaves() {
        for (int leaves = 2; leaves <= 4; leaves++) {
            Watched x = Cases.variables();
            int v = x.variable(0, leaves);
            for (int first = 1; first <= 6; first++) {
                int want = first <= leaves ? 1 : NONE;
                for (int act : ON_PLACES) {
                    due("act " + act + ", leaf digit " + first + " of " + leaves, x.act(0, act, v, first), want);
                }
                due("behind it", x.act(0, READ, v, path(first, 6)), want);
            }
        }
        for (int first = 4; first <= 6; first++) {
            int digit = first;
            Cases.refusedAtEach("first digit " + first + " of three", (x, p) -> x.act(p, READ, PLAIN_THREE, digit));
        }
    }

    private static void promise4_theFirstDigitOfOneLeaf() {
        for (int first = 1; first <= 6; first++) {
            Watched x = Cases.variables();
            due("READ " + first, x.act(0, READ, PLAIN_ONE, first), 1);
            due("GIVE " + first, x.act(0, GIVE, PLAIN_ONE, first), 1);
            due("CHANGE " + first, x.act(0, CHANGE, PLAIN_ONE, first), 1);
            due("its one leaf", x.judge(), 0);
            x.begins(PLAIN_ONE, false);
            due("its one leaf is wanted", x.judge(), 3);
        }
    }

    private static void promise4_moveOfAPathBehindItsLeaf() {
        for (int further : new int[] {1, 4, 5, 6}) {
            Cases.refusedAtEach("of several leaves", (x, p) -> x.act(p, MOVE, PLAIN_THREE, path(1, further)));
            Cases.refusedAtEach("of one leaf", (x, p) -> x.act(p, MOVE, PLAIN_ONE, further));
        }
        Cases.refused("four digits", x -> x.act(3, MOVE, PLAIN_THREE, path(3, 1, 1, 1)));
        Cases.refused("four digits of one leaf", x -> x.act(3, MOVE, PLAIN_ONE, path(1, 1, 1, 1)));
    }

    private static void promise4_moveOfAllLeavesAndOfOne() {
        Watched x = Cases.variables();
        x.chain(0, 1);
        due("all three", x.act(0, MOVE, PLAIN_THREE, 0), 1);
        for (int leaf = 0; leaf < 3; leaf++) {
            due("leaf " + leaf, x.held(1, PLAIN_THREE, leaf), 0);
        }
        for (int moved = 0; moved < 3; moved++) {
            due("one of three", x.act(0, MOVE, PLAIN_THREE, moved + 1), 1);
            for (int leaf = 0; leaf < 3; leaf++) {
                due("leaf " + leaf, x.held(1, PLAIN_THREE, leaf), leaf == moved ? 0 : 1);
            }
        }
        due("the only one", x.act(0, MOVE, PLAIN_ONE, 0), 1);
        due("it is taken", x.held(1, PLAIN_ONE, 0), 0);
    }

    private static void promise4_moveOfAReferenceOrThroughOne() {
        for (int v = SHARED_A; v <= SOLE_B; v++) {
            int of = v;
            Cases.refusedAtEach("MOVE of " + v, (x, p) -> x.act(p, MOVE, of, 0));
            Cases.refusedAtEach("MOVE through " + v, (x, p) -> x.act(p, MOVE, of, BEHIND));
        }
    }

    private static void promise4_readGiveChangeOfAReferenceItself() {
        for (int v = SHARED_A; v <= SOLE_B; v++) {
            int of = v;
            Cases.refusedAtEach("READ of " + v, (x, p) -> x.act(p, READ, of, 0));
            Cases.refusedAtEach("GIVE of " + v, (x, p) -> x.act(p, GIVE, of, 0));
            Cases.refusedAtEach("CHANGE of " + v, (x, p) -> x.act(p, CHANGE, of, 0));
        }
    }

    private static void promise4_giveAndChangeThroughAReference() {
        for (int path : new int[] {BEHIND, path(BEHIND, 1), path(BEHIND, 6, 5, 4)}) {
            Cases.refusedAtEach("GIVE through a shared one", (x, p) -> x.act(p, GIVE, SHARED_A, path));
            Cases.refusedAtEach("CHANGE through a shared one", (x, p) -> x.act(p, CHANGE, SHARED_B, path));
            Watched x = Cases.variables();
            due("READ through a shared one", x.act(0, READ, SHARED_A, path), 1);
            due("READ through a sole one", x.act(0, READ, SOLE_A, path), 1);
            due("GIVE through a sole one", x.act(0, GIVE, SOLE_A, path), 1);
            due("CHANGE through a sole one", x.act(0, CHANGE, SOLE_A, path), 1);
            due("it wants the reference", x.fault(1), 0);
        }
    }

    private static void promise4_anotherActTakesThePlaceOfTheOld() {
        for (int act = NOTHING; act <= END; act++) {
            Watched x = Cases.usual();
            due("a loan", x.force(1, 2), 1);
            due("act " + act, x.act(1, act, PLAIN_ONE, 0), 1);
            due("no loan any more", x.force(1, 2), NONE);
            due("a loan less", x.count(1), 2);
        }
    }

    // ---- promise 5: lend

    private static void promise5_pointsMinus1And0And149And150() {
        for (int p : NO_POINTS) {
            Cases.refused("lend at " + p, x -> x.lend(p, SHARED_A, PLAIN_ONE, 0));
        }
        Watched x = Cases.variables();
        due("at 0", x.lend(0, SHARED_A, PLAIN_ONE, 0), 1);
        due("at 149", x.lend(149, SHARED_A, PLAIN_ONE, 0), 1);
        due("loans", x.count(1), 2);
        due("the loan of 0", x.force(0, 0), 0);
        due("the loan of 149", x.force(149, 0), 0);
    }

    private static void promise5_toNoReference() {
        for (int to : NO_VARIABLES) {
            Cases.refused("to " + to, x -> x.lend(4, to, PLAIN_ONE, 0));
        }
        Cases.refusedAtEach("to a plain one", (x, p) -> x.lend(p, PLAIN_ONE, PLAIN_THREE, 0));
        Cases.refusedAtEach("to itself, plain", (x, p) -> x.lend(p, PLAIN_ONE, PLAIN_ONE, 0));
        Cases.refusedAtEach("to a plain one through a sole one", (x, p) -> x.lend(p, PLAIN_ONE, SOLE_A, BEHIND));
    }

    private static void promise5_ofNoSuchVariable() {
        for (int v : NO_VARIABLES) {
            Cases.refused("of " + v, x -> x.lend(4, SHARED_A, v, 0));
            Cases.refused("behind " + v, x -> x.lend(4, SHARED_A, v, BEHIND));
        }
    }

    private static void promise5_theVariableBehindThe16th() {
        Cases.refusedOnFull("to 16", x -> x.lend(3, 16, PLAIN_ONE, 0));
        Cases.refusedOnFull("to -1", x -> x.lend(3, -1, PLAIN_ONE, 0));
        Cases.refusedOnFull("of 16", x -> x.lend(3, SHARED_A, 16, 0));
        Cases.refusedOnFull("of -1", x -> x.lend(3, SHARED_A, -1, 0));
        Watched x = Cases.full();
        due("to the 16th", x.lend(3, 15, PLAIN_ONE, 0), 1);
        due("through the 16th", x.lend(4, SHARED_A, 15, BEHIND), 1);
        due("through the 16th to itself", x.lend(5, 15, 15, BEHIND), 1);
        due("it holds", x.holds(4, 15, 3), 1);
    }

    private static void promise5_ofNoPlace() {
        int[] bad = {-1, MIN, 7, path(1, 7), path(5, 7), path(0, 1), path(1, 0, 1), path(5, 0, 1), 4096,
            path(1, 1, 1, 1, 1), path(5, 1, 1, 1, 1), MAX};
        for (int path : bad) {
            for (int v = 0; v < Cases.USUAL_VARIABLES; v++) {
                int of = v;
                Cases.refused("to a shared one of " + v + ", " + path, x -> x.lend(0, SHARED_B, of, path));
                Cases.refused("to a sole one of " + v + ", " + path, x -> x.lend(0, SOLE_B, of, path));
            }
        }
        for (int first = 4; first <= 6; first++) {
            int digit = first;
            Cases.refusedAtEach("leaf digit " + first, (x, p) -> x.lend(p, SHARED_A, PLAIN_THREE, digit));
        }
    }

    private static void promise5_ofAReferenceWhoseFirstDigitIsNot5() {
        for (int first : new int[] {1, 2, 3, 4, 6}) {
            for (int v = SHARED_A; v <= SOLE_B; v++) {
                int of = v;
                Cases.refused("to a shared one", x -> x.lend(3, SHARED_A, of, first));
                Cases.refused("to a sole one", x -> x.lend(3, SOLE_A, of, path(first, BEHIND)));
            }
        }
    }

    private static void promise5_ofAReferenceItself() {
        for (int v = SHARED_A; v <= SOLE_B; v++) {
            for (int to = SHARED_A; to <= SOLE_B; to++) {
                int of = v;
                int receiver = to;
                Cases.refused("of " + v + " to " + to, x -> x.lend(5, receiver, of, 0));
            }
        }
    }

    private static void promise5_toASoleOneThroughASharedOne() {
        for (int path : new int[] {BEHIND, path(BEHIND, 1), path(BEHIND, 5, 6, 1)}) {
            Cases.refusedAtEach("through a shared one", (x, p) -> x.lend(p, SOLE_A, SHARED_A, path));
        }
        Watched x = Cases.variables();
        due("to a shared one through a shared one", x.lend(0, SHARED_A, SHARED_B, BEHIND), 1);
        due("that makes no loan", x.count(1), 0);
        due("to a shared one through a sole one", x.lend(0, SHARED_A, SOLE_A, BEHIND), 1);
        due("that makes one", x.count(1), 1);
        due("to a sole one through a sole one", x.lend(0, SOLE_B, SOLE_A, BEHIND), 1);
    }

    private static void promise5_throughTheOneItIsLentTo() {
        Watched x = Cases.variables();
        due("a sole one", x.lend(0, SOLE_A, SOLE_A, BEHIND), 1);
        due("it makes a loan", x.count(1), 1);
        due("it wants it", x.fault(1), 0);
        due("a shared one", x.lend(0, SHARED_A, SHARED_A, path(BEHIND, 1)), 1);
        due("it makes none", x.count(1), 0);
        due("it wants it", x.fault(1), 0);
    }

    /** Points 0 to 59 have LEND, on one way; only a few of them make a loan. */
    private static Watched sixty() {
        Watched x = Cases.variables();
        x.begins(SHARED_B, true);
        for (int p = 0; p < 60; p++) {
            if (p % 20 == 0) {
                x.lend(p, SHARED_A, PLAIN_ONE, 0);
            } else {
                x.lend(p, SHARED_A, SHARED_B, BEHIND);
            }
        }
        x.chain(0, 20, 40, 59, 60);
        return x;
    }

    private static void promise5_the60thPointWithLendAndA61st() {
        Watched x = Cases.variables();
        for (int p = 0; p < 60; p++) {
            due("lend " + p, x.lend(149 - p, SHARED_A, PLAIN_ONE, 0), 1);
            due("loans", x.count(1), p + 1);
        }
        int[] points = {0, 20, 40, 59, 60, 61, 149};
        for (int p : new int[] {60, 61, 149}) {
            Cases.refused(MakingBoundaryTest::sixty, points, "a 61st at " + p, y -> y.lend(p, SHARED_A, PLAIN_ONE, 0));
            Cases.refused(MakingBoundaryTest::sixty, points, "a 61st without a loan", y -> y.lend(p, SHARED_A, SHARED_B, BEHIND));
        }
    }

    private static void promise5_oneOfThe60GetsLendAnew() {
        Watched x = sixty();
        for (int p : new int[] {0, 1, 59}) {
            due("anew", x.lend(p, SOLE_A, PLAIN_THREE, 0), 1);
            due("another loan", x.force(p, 0), 0);
        }
        due("loans", x.count(1), 5);
        due("no room for a 61st", x.lend(60, SHARED_A, PLAIN_ONE, 0), NONE);
        int[] points = {0, 20, 59, 60};
        Cases.refused(MakingBoundaryTest::sixty, points, "one of the 60 wrongly", y -> y.lend(0, SOLE_A, SHARED_A, BEHIND));
        Cases.refused(MakingBoundaryTest::sixty, points, "one of the 60 wrongly", y -> y.lend(59, PLAIN_ONE, PLAIN_ONE, 0));
    }

    private static void promise5_roomWhenOneOfThe60HasAnotherAct() {
        for (int act = NOTHING; act <= END; act++) {
            Watched x = sixty();
            due("act " + act, x.act(59, act, PLAIN_ONE, 0), 1);
            due("room for one", x.lend(60, SHARED_A, PLAIN_ONE, 0), 1);
            due("for no other", x.lend(59, SHARED_A, PLAIN_ONE, 0), NONE);
        }
        Watched y = sixty();
        due("a copy", y.copy(0, SHARED_A, SHARED_B), 1);
        due("room for one", y.lend(149, SHARED_A, PLAIN_ONE, 0), 1);
        due("for no other", y.lend(0, SHARED_A, PLAIN_ONE, 0), NONE);
    }

    private static void promise5_refusedActsMakeNoRoom() {
        Watched x = sixty();
        due("no act", x.act(59, 7, PLAIN_ONE, 0), NONE);
        due("no act on a reference", x.act(59, READ, SHARED_A, 0), NONE);
        due("no copy", x.copy(59, SHARED_A, SHARED_A), NONE);
        due("no room", x.lend(60, SHARED_A, PLAIN_ONE, 0), NONE);
    }

    // ---- promise 6: copy

    private static void promise6_pointsMinus1And0And149And150() {
        for (int p : NO_POINTS) {
            Cases.refused("copy at " + p, x -> x.copy(p, SHARED_A, SHARED_B));
        }
        Watched x = Cases.variables();
        due("at 0", x.copy(0, SHARED_A, SHARED_B), 1);
        due("it wants", x.fault(1), 0);
        x.begins(SHARED_B, true);
        due("at 149", x.copy(149, SOLE_A, SOLE_B), 1);
        x.chain(0, 149);
        due("it wants", x.fault(1), 149);
    }

    private static void promise6_toItself() {
        for (int v = 0; v < Cases.USUAL_VARIABLES; v++) {
            int same = v;
            Cases.refusedAtEach("copy of " + v + " to itself", (x, p) -> x.copy(p, same, same));
        }
    }

    private static void promise6_betweenASharedAndASoleOne() {
        Cases.refusedAtEach("to a shared one from a sole one", (x, p) -> x.copy(p, SHARED_A, SOLE_A));
        Cases.refusedAtEach("to a sole one from a shared one", (x, p) -> x.copy(p, SOLE_A, SHARED_A));
    }

    private static void promise6_ofPlainOnes() {
        Cases.refusedAtEach("between plain ones", (x, p) -> x.copy(p, PLAIN_ONE, PLAIN_THREE));
        for (int r : new int[] {SHARED_A, SOLE_A}) {
            Cases.refusedAtEach("from a plain one", (x, p) -> x.copy(p, r, PLAIN_ONE));
            Cases.refusedAtEach("to a plain one", (x, p) -> x.copy(p, PLAIN_ONE, r));
        }
    }

    private static void promise6_noSuchVariable() {
        for (int v : NO_VARIABLES) {
            Cases.refused("to " + v, x -> x.copy(3, v, SHARED_A));
            Cases.refused("from " + v, x -> x.copy(3, SOLE_A, v));
            Cases.refused("both", x -> x.copy(3, v, v));
        }
    }

    private static void promise6_theVariableBehindThe16th() {
        Cases.refusedOnFull("to 16", x -> x.copy(3, 16, SOLE_A));
        Cases.refusedOnFull("from 16", x -> x.copy(3, SOLE_A, 16));
        Cases.refusedOnFull("to -1", x -> x.copy(3, -1, SOLE_A));
        Watched x = Cases.full();
        due("to the 16th", x.copy(3, 15, SOLE_A), 1);
        due("it holds", x.holds(4, 15, 0), 1);
        due("from the 16th", x.copy(3, SOLE_A, 15), 1);
    }

    private static void promise6_theFromOneStaysOnlyIfShared() {
        Watched x = Cases.variables();
        x.begins(SHARED_B, true);
        x.begins(SOLE_B, true);
        x.chain(0, 1);
        due("shared", x.copy(0, SHARED_A, SHARED_B), 1);
        due("given", x.held(1, SHARED_A, 0), 1);
        due("not taken", x.held(1, SHARED_B, 0), 1);
        due("sole", x.copy(0, SOLE_A, SOLE_B), 1);
        due("given", x.held(1, SOLE_A, 0), 1);
        due("taken", x.held(1, SOLE_B, 0), 0);
        due("not ahead of the act", x.held(0, SOLE_B, 0), 1);
    }

    // ---- promise 7: next

    private static void promise7_pointsMinus1And0And149And150() {
        for (int p : NO_POINTS) {
            for (boolean is : new boolean[] {true, false}) {
                Cases.refused("from " + p, x -> x.next(p, 0, is));
                Cases.refused("to " + p, x -> x.next(0, p, is));
                Cases.refused("both " + p, x -> x.next(p, p, is));
            }
        }
        Watched x = new Watched();
        due("0 to 149", x.next(0, 149, true), 1);
        due("149 to 148", x.next(149, 148, true), 1);
        due("148 to 0", x.next(148, 0, true), 1);
        due("149 to itself", x.next(149, 149, true), 1);
        due("points", x.count(2), 3);
    }

    /** The usual object, whose point 0 has four next: 1 and 3 to 5. */
    private static Watched fourNext() {
        Watched x = Cases.usual();
        for (int q = 3; q <= 5; q++) {
            x.next(0, q, true);
        }
        return x;
    }

    private static void promise7_theFourthAndAFifth() {
        Watched x = Cases.usual();
        due("the second", x.next(0, 3, true), 1);
        due("the third", x.next(0, 4, true), 1);
        due("the fourth", x.next(0, 60, true), 1);
        due("a way comes to it", x.comes(60), 1);
        due("a fifth", x.next(0, 61, true), NONE);
        due("no way comes to it", x.comes(61), 0);
        for (int q : new int[] {0, 2, 6, 149}) {
            Cases.refused(MakingBoundaryTest::fourNext, Cases.USUAL_POINTS, "a fifth", y -> y.next(0, q, true));
        }
    }

    private static void promise7_oneThatIsNextAlready() {
        Watched x = fourNext();
        int pairs = x.count(3);
        for (int q : new int[] {1, 3, 4, 5}) {
            due("again", x.next(0, q, true), 1);
        }
        due("pairs", x.count(3), pairs);
        due("no room", x.next(0, 6, true), NONE);
        due("taken away once", x.next(0, 3, false), 1);
        due("room for one", x.next(0, 60, true), 1);
        due("for no other", x.next(0, 61, true), NONE);
        Watched y = new Watched();
        for (int i = 0; i < 6; i++) {
            due("the only one again", y.next(0, 1, true), 1);
        }
        due("it takes one place", y.next(0, 2, true), 1);
        due("taken away once is enough", y.next(0, 1, false), 1);
        due("it has gone", y.comes(1), 0);
    }

    private static void promise7_takenAwayAndNotThere() {
        Watched x = new Watched();
        due("of none", x.next(0, 1, false), 1);
        due("points", x.count(2), 1);
        x.next(0, 1, true);
        due("of one", x.next(0, 2, false), 1);
        due("the other one the way round", x.next(1, 0, false), 1);
        due("points", x.count(2), 2);
        Watched y = fourNext();
        int pairs = y.count(3);
        due("of four", y.next(0, 60, false), 1);
        due("the four stay", y.count(3), pairs);
        due("no room", y.next(0, 60, true), NONE);
    }

    private static void promise7_eachOfFourTakenAway() {
        for (int away = 1; away <= 4; away++) {
            Watched x = new Watched();
            for (int q = 1; q <= 4; q++) {
                x.next(0, q, true);
            }
            due("away", x.next(0, away, false), 1);
            for (int q = 1; q <= 4; q++) {
                due("point " + q, x.comes(q), q == away ? 0 : 1);
            }
            due("room for one", x.next(0, 5, true), 1);
            due("for no other", x.next(0, away, true), NONE);
        }
    }

    private static void promise7_aPointThatIsNextToItself() {
        Watched x = Cases.variables();
        x.act(0, MOVE, PLAIN_ONE, 0);
        due("no way back", x.judge(), 0);
        due("to itself", x.next(0, 0, true), 1);
        due("a way back", x.fault(1), 0);
        due("points", x.count(2), 1);
        due("away", x.next(0, 0, false), 1);
        due("no way back", x.judge(), 0);
    }

    private static void promise7_pointsThatNoWayComesToHaveNextOnesToo() {
        Watched x = new Watched();
        for (int q = 0; q < 4; q++) {
            due("next to 149", x.next(149, q, true), 1);
        }
        due("a fifth", x.next(149, 4, true), NONE);
        due("no way comes to it", x.count(2), 1);
        x.next(0, 149, true);
        due("all of them", x.count(2), 5);
    }

    public static void main(String[] args) throws Exception {
        Cases.run(MakingBoundaryTest.class);
    }
}
