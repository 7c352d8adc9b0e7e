import java.util.LinkedHashSet;
import java.util.Random;
import java.util.Set;

/** Objects after many of their 512 calls, whose acts and ways have been changed and changed back. */
public final class LongLifeTest {
    private static final int NONE = Cases.NONE;
    private static final int NOTHING = Cases.NOTHING;
    private static final int READ = Cases.READ;
    private static final int MOVE = Cases.MOVE;
    private static final int GIVE = Cases.GIVE;
    private static final int CHANGE = Cases.CHANGE;
    private static final int LET = Cases.LET;
    private static final int END = Cases.END;
    private static final int BEHIND = Cases.BEHIND;
    private static final int PLAIN_ONE = Cases.PLAIN_ONE;
    private static final int PLAIN_THREE = Cases.PLAIN_THREE;
    private static final int SHARED_A = Cases.SHARED_A;
    private static final int SHARED_B = Cases.SHARED_B;
    private static final int SOLE_A = Cases.SOLE_A;
    private static final int SOLE_B = Cases.SOLE_B;

    /** Leaves calls enough for the questions behind it. */
    private static final int LONG = 400;

    private static final String AT_MOST = "An object is used for at most 512 calls after it has been made;";

    private static void due(String what, int got, int want) {
        Cases.due(what, got, want);
    }

    private static int path(int... digits) {
        return Cases.path(digits);
    }

    /** What it finds out it may keep, and must forget with the next change. */
    private static void askSomething(Watched x, int i) {
        int p = Cases.USUAL_POINTS[i % Cases.USUAL_POINTS.length];
        switch (i % 8) {
            case 0 -> x.judge();
            case 1 -> x.fault(2);
            case 2 -> x.count(3);
            case 3 -> x.held(p, PLAIN_THREE, 2);
            case 4 -> x.holds(p, SOLE_B, 0);
            case 5 -> x.used(p, SHARED_A);
            case 6 -> x.force(1, p);
            default -> x.comes(p);
        }
    }

    private static void anotherAct(Watched x, int p, int i) {
        switch (i % 9) {
            case 0 -> x.act(p, READ, PLAIN_ONE, 1);
            case 1 -> x.act(p, MOVE, PLAIN_THREE, 0);
            case 2 -> x.act(p, GIVE, PLAIN_THREE, 3);
            case 3 -> x.act(p, CHANGE, SOLE_A, path(BEHIND, 1));
            case 4 -> x.act(p, LET, SOLE_A, 0);
            case 5 -> x.act(p, END, PLAIN_ONE, 0);
            case 6 -> x.copy(p, SOLE_A, SOLE_B);
            case 7 -> x.lend(p, SHARED_B, SOLE_B, BEHIND);
            default -> x.act(p, NOTHING, 0, 0);
        }
    }

    private static Watched actsChangedBack(int from) {
        Watched x = Cases.usual();
        int i = from;
        while (x.calls() < LONG) {
            int p = Cases.USUAL_POINTS[i % Cases.USUAL_POINTS.length];
            anotherAct(x, p, i / 2);
            askSomething(x, i);
            anotherAct(x, p, i / 3);
            askSomething(x, i + 3);
            Cases.usualAct(x, p);
            i++;
        }
        return x;
    }

    @Says(AT_MOST)
    private static void life_actsChangedAndChangedBack() {
        for (int from = 0; from < 30; from += 7) {
            int begin = from;
            Cases.isUsualAgain("acts from " + from, () -> actsChangedBack(begin));
        }
    }

    /** All of the ways are taken away and made again in another order. */
    private static Watched waysChangedBack(int step) {
        Watched x = Cases.usual();
        int ways = Cases.USUAL_WAYS.length;
        for (int round = 0; x.calls() < LONG - 5 * ways; round++) {
            for (int i = 0; i < ways; i++) {
                int[] way = Cases.USUAL_WAYS[i * step % ways];
                x.next(way[0], way[1], false);
                askSomething(x, i + round);
            }
            for (int i = 0; i < ways; i++) {
                int[] way = Cases.USUAL_WAYS[(i * step + round) % ways];
                x.next(way[0], way[1], true);
                askSomething(x, i + 5);
            }
        }
        return x;
    }

    @Says(AT_MOST)
    private static void life_pointsNextChangedAndChangedBack() {
        for (int step = 1; step <= 4; step++) {
            int by = step;
            Cases.isUsualAgain("ways by " + step, () -> waysChangedBack(by));
        }
    }

    /** Each point has four next at times, of which the usual ones are not always the first ones. */
    private static Watched fullOfWays(int turn) {
        Watched x = Cases.usual();
        for (int i = 0; x.calls() < LONG; i++) {
            int p = Cases.USUAL_POINTS[(i + turn) % 10];
            int[] others = {60, 61, 62, 63};
            for (int q : others) {
                x.next(p, q, true);
            }
            askSomething(x, i + turn);
            for (int[] way : Cases.USUAL_WAYS) {
                if (way[0] == p) {
                    x.next(p, way[1], false);
                }
            }
            x.next(p, others[i % 4], true);
            askSomething(x, i + 2);
            for (int q : others) {
                x.next(p, q, false);
            }
            for (int[] way : Cases.USUAL_WAYS) {
                if (way[0] == p) {
                    x.next(p, way[1], true);
                }
            }
        }
        return x;
    }

    @Says(AT_MOST)
    private static void life_pointsNextFilledAndEmptied() {
        for (int turn = 0; turn < 10; turn += 3) {
            int by = turn;
            Cases.isUsualAgain("filled from " + turn, () -> fullOfWays(by));
        }
    }

    private static Watched beginsChangedBack() {
        Watched x = Cases.usual();
        boolean[] usual = {true, true, false, true, false, false};
        for (int i = 0; x.calls() < LONG; i++) {
            int v = i % Cases.USUAL_VARIABLES;
            x.begins(v, !usual[v]);
            askSomething(x, i);
            x.begins(v, usual[v]);
            if (i % 3 == 0) {
                x.begins(v, usual[v]);
            }
        }
        return x;
    }

    @Says(AT_MOST)
    private static void life_begunOnesChangedAndChangedBack() {
        Cases.isUsualAgain("begun ones", LongLifeTest::beginsChangedBack);
    }

    private static Watched refusedAgainAndAgain() {
        Watched x = Cases.usual();
        for (int i = 0; x.calls() < LONG; i++) {
            int p = Cases.USUAL_POINTS[i % 10];
            int answers = x.act(p, MOVE, PLAIN_ONE, 1 + i % 6) + x.act(p, 7 + i % 3, PLAIN_ONE, 0)
                    + x.lend(p, SOLE_A, SHARED_B, BEHIND) + x.copy(p, SOLE_B, SHARED_A) + x.next(p, 150, true)
                    + x.begins(Cases.USUAL_VARIABLES, true) + x.variable(1, 2) + x.held(p, PLAIN_ONE, 1);
            due("all eight are refused", answers, 8 * NONE);
        }
        return x;
    }

    @Says(AT_MOST)
    private static void life_refusedCallsAgainAndAgain() {
        Cases.isUsualAgain("what was refused", LongLifeTest::refusedAgainAndAgain);
    }

    /** Anything may be next to anything of the usual points in between. */
    private static Watched changedAtRandom(int seed) {
        Random random = new Random(seed);
        Watched x = Cases.usual();
        Set<Integer> made = new LinkedHashSet<>();
        while (x.calls() < LONG - 120) {
            int p = Cases.USUAL_POINTS[random.nextInt(10)];
            int q = Cases.USUAL_POINTS[random.nextInt(10)];
            switch (random.nextInt(4)) {
                case 0 -> anotherAct(x, p, random.nextInt(9));
                case 1 -> {
                    x.next(p, q, random.nextInt(3) > 0);
                    made.add(1000 * p + q);
                }
                case 2 -> x.begins(random.nextInt(Cases.USUAL_VARIABLES), random.nextBoolean());
                default -> askSomething(x, random.nextInt(80));
            }
        }
        for (int way : made) {
            x.next(way / 1000, way % 1000, false);
        }
        for (int[] way : Cases.USUAL_WAYS) {
            x.next(way[0], way[1], true);
        }
        for (int p : Cases.USUAL_POINTS) {
            Cases.usualAct(x, p);
        }
        boolean[] begun = {true, true, false, true, false, false};
        for (int v = 0; v < begun.length; v++) {
            x.begins(v, begun[v]);
        }
        return x;
    }

    @Says(AT_MOST)
    private static void life_anythingChangedAndChangedBack() {
        for (int seed = 0; seed < 12; seed++) {
            int from = seed;
            Cases.isUsualAgain("seed " + seed, () -> changedAtRandom(from));
        }
    }

    /** The same acts, ways and beginnings, each the other way round. */
    private static Watched madeBackwards() {
        Watched x = Cases.variables();
        for (int i = Cases.USUAL_WAYS.length - 1; i >= 0; i--) {
            x.next(Cases.USUAL_WAYS[i][0], Cases.USUAL_WAYS[i][1], true);
            askSomething(x, i);
        }
        for (int i = Cases.USUAL_POINTS.length - 1; i >= 0; i--) {
            Cases.usualAct(x, Cases.USUAL_POINTS[i]);
            askSomething(x, i);
        }
        x.begins(SHARED_B, true);
        return x;
    }

    @Says(AT_MOST)
    private static void life_theOrderOfTheCallsCountsForNothing() {
        Cases.isUsualAgain("made backwards", LongLifeTest::madeBackwards);
    }

    @Says(AT_MOST)
    private static void life_sixtyLendsChangedAndChangedBack() {
        Watched x = Cases.variables();
        for (int p = 0; p < 60; p++) {
            x.lend(p, SHARED_A, PLAIN_ONE, 0);
        }
        for (int round = 0; round < 3; round++) {
            for (int p = 0; p < 60; p += 1 + round) {
                due("another act", x.act(p, round == 1 ? LET : NOTHING, PLAIN_ONE, 0), 1);
                due("LEND again", x.lend(p, SHARED_A, PLAIN_ONE, 0), 1);
            }
            due("loans", x.count(1), 60);
            due("no room for one more", x.lend(60, SHARED_A, PLAIN_ONE, 0), NONE);
        }
        for (int p = 0; p < 60; p++) {
            x.lend(p, SOLE_A, SOLE_B, BEHIND);
        }
        due("LEND instead of LEND", x.count(1), 60);
        x.act(59, NOTHING, 0, 0);
        due("one less", x.count(1), 59);
        due("room for one", x.lend(149, SHARED_A, PLAIN_ONE, 0), 1);
        due("for no other", x.lend(59, SHARED_A, PLAIN_ONE, 0), NONE);
        due("loans", x.count(1), 60);
    }

    /** Each loan is made by the same point, of other places and for other references by turns. */
    @Says(AT_MOST)
    private static void life_otherLoansOfTheSamePoint() {
        Watched x = Cases.variables();
        x.chain(0, 1, 2);
        for (int round = 0; x.calls() < LONG; round++) {
            String told = "round " + round + ": ";
            x.act(1, READ, PLAIN_ONE, 0);
            x.act(2, READ, SOLE_A, BEHIND);
            x.lend(0, SOLE_A, PLAIN_ONE, 0);
            due(told + "a sole loan", x.judge(), 4);
            x.lend(0, SHARED_A, PLAIN_ONE, 0);
            x.act(2, READ, SHARED_A, BEHIND);
            due(told + "a shared one", x.judge(), 0);
            x.act(1, CHANGE, PLAIN_ONE, 0);
            due(told + "beside a change", x.judge(), 4);
            x.lend(0, SHARED_A, PLAIN_THREE, 0);
            due(told + "of another variable", x.judge(), 0);
            x.act(1, CHANGE, PLAIN_THREE, 2);
            due(told + "beside a change of that", x.judge(), 4);
            x.lend(0, SHARED_A, PLAIN_THREE, 1);
            due(told + "of another leaf", x.judge(), 0);
            x.act(0, NOTHING, 0, 0);
            due(told + "of none", x.judge(), 3);
        }
    }

    /** A ring, of which one act and one way are changed and changed back till the calls are at an end. */
    @Says(AT_MOST)
    private static void life_theSameAnswersEachTime() {
        Watched x = Cases.variables();
        x.lend(1, SHARED_A, PLAIN_ONE, 0);
        x.act(3, READ, SHARED_A, BEHIND);
        x.chain(0, 1, 2, 3, 4);
        for (int round = 0; x.calls() < Watched.MOST_CALLS - 25; round++) {
            String told = "round " + round + ": ";
            due(told + "no fault", x.judge(), 0);
            due(told + "in force at 2 alone", x.count(3), 1);
            x.act(4, MOVE, PLAIN_ONE, 0);
            due(told + "behind the last use", x.judge(), 0);
            x.next(4, 2, true);
            due(told + "moved twice", x.fault(1), 4);
            due(told + "by itself", x.fault(2), 4);
            due(told + "on some way", x.held(2, PLAIN_ONE, 0), 2);
            due(told + "used on the way back", x.used(3, SHARED_A), 1);
            due(told + "in force on the way back", x.force(1, 4), 1);
            x.act(2, GIVE, PLAIN_ONE, 0);
            due(told + "a clash", x.fault(1), 2);
            due(told + "with the loan", x.fault(2), 1);
            due(told + "two points clash", x.count(5), 2);
            x.act(2, LET, SHARED_A, 0);
            due(told + "not held any more", x.holds(3, SHARED_A, 1), 0);
            due(told + "unheld at 3 and at 4", x.count(4), 2);
            x.act(2, NOTHING, 0, 0);
            x.act(4, NOTHING, 0, 0);
            x.next(4, 2, false);
        }
        while (x.calls() < Watched.MOST_CALLS - 1) {
            due("near the end", x.force(1, 2), 1);
        }
        due("the 512th call", x.count(3), 1);
    }

    /** A way of all points goes this way and that, and the variable made last is as good as the first. */
    @Says(AT_MOST)
    private static void life_allPointsAndALateVariable() {
        Watched x = new Watched();
        x.variable(0, 1);
        x.begins(0, true);
        x.next(0, 149, true);
        for (int p = 149; p > 1; p--) {
            x.next(p, p - 1, true);
        }
        due("all points", x.count(2), 150);
        for (int p = 149; p > 1; p--) {
            x.next(p, p - 1, false);
        }
        due("two points", x.count(2), 2);
        x.next(149, 2, true);
        for (int p = 2; p < 148; p++) {
            x.next(p, p + 1, true);
        }
        due("all but point 1", x.count(2), 149);
        int late = x.variable(2, 1);
        due("the second variable", late, 1);
        x.lend(149, late, 0, 0);
        x.act(148, READ, late, BEHIND);
        due("held all the way", x.holds(148, late, 149), 1);
        due("in force all the way", x.count(3), 146);
        x.act(75, READ, 0, 0);
        due("a clash", x.fault(1), 75);
        due("with the loan", x.fault(2), 149);
    }

    public static void main(String[] args) throws Exception {
        Cases.run(LongLifeTest.class);
    }
}
