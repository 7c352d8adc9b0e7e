import java.lang.reflect.InvocationTargetException;
import java.lang.reflect.Method;
import java.lang.reflect.Modifier;
import java.util.ArrayList;
import java.util.Arrays;
import java.util.Comparator;
import java.util.HashMap;
import java.util.List;
import java.util.Map;
import java.util.function.Supplier;
import java.util.function.ToIntFunction;

/** Runs the cases of a test, each a method named after a promise, and sees what refused calls change. */
final class Cases {
    static final int NONE = LoanWays.NONE;
    static final int NOTHING = 0;
    static final int READ = 1;
    static final int MOVE = 2;
    static final int GIVE = 3;
    static final int CHANGE = 4;
    static final int LET = 5;
    static final int END = 6;
    static final int BEHIND = 5;

    static final int MIN = Integer.MIN_VALUE;
    static final int MAX = Integer.MAX_VALUE;

    /** Points of which the usual object has all on its ways, each with another act. */
    static final int[] USUAL_POINTS = {0, 1, 2, 3, 4, 5, 6, 7, 8, 149};
    static final int[][] USUAL_WAYS = {{0, 1}, {1, 2}, {2, 3}, {3, 4}, {4, 5}, {5, 6}, {6, 7}, {7, 8}, {8, 149},
        {7, 2}, {149, 5}};
    static final int PLAIN_ONE = 0;
    static final int PLAIN_THREE = 1;
    static final int SHARED_A = 2;
    static final int SHARED_B = 3;
    static final int SOLE_A = 4;
    static final int SOLE_B = 5;
    static final int USUAL_VARIABLES = 6;

    private static final int LEAST_ROOM = 100;

    private static String name = "";
    private static int wrong = 0;
    private static final Map<Supplier<Watched>, List<Integer>> untouched = new HashMap<>();

    private Cases() {
    }

    /** Runs all cases of the class; ends the program with 1 if one of them is wrong. */
    static void run(Class<?> tests) throws IllegalAccessException {
        Method[] methods = tests.getDeclaredMethods();
        Arrays.sort(methods, Comparator.comparing(Method::getName));
        int cases = 0;
        for (Method m : methods) {
            if (isCase(m)) {
                cases++;
                runOne(m);
            }
        }
        System.out.println(wrong == 0 ? "all " + cases + " cases are as due" : wrong + " answers are not as due");
        if (wrong != 0 || cases == 0) {
            System.exit(1);
        }
    }

    /** The bodies of lambdas are methods too, but their names begin otherwise. */
    private static boolean isCase(Method m) {
        boolean named = m.getName().startsWith("promise") || m.isAnnotationPresent(Says.class);
        return named && Modifier.isStatic(m.getModifiers());
    }

    private static void runOne(Method m) throws IllegalAccessException {
        name = m.getName();
        m.setAccessible(true);
        try {
            m.invoke(null);
        } catch (InvocationTargetException e) {
            isWrong(name + ": " + e.getCause());
        }
    }

    static void due(String what, int got, int want) {
        if (got != want) {
            isWrong(name + ": " + what + ": " + got + ", due is " + want);
        }
    }

    static void isWrong(String what) {
        wrong++;
        System.out.println(what);
    }

    /** A path by its digits, the first one first: path(2, 5) is part 1 and what is behind that. */
    static int path(int... digits) {
        int path = 0;
        for (int i = 0; i < digits.length; i++) {
            path |= digits[i] << (3 * i);
        }
        return path;
    }

    /** Two plain variables of one and of three leaves, given, two shared references and two sole ones. */
    static Watched variables() {
        Watched x = new Watched();
        x.variable(0, 1);
        x.variable(0, 3);
        x.variable(1, 1);
        x.variable(1, 1);
        x.variable(2, 1);
        x.variable(2, 1);
        x.begins(PLAIN_ONE, true);
        x.begins(PLAIN_THREE, true);
        return x;
    }

    /** Every kind of act on one way with ways back: a change of any of it shows in the answers. */
    static Watched usual() {
        Watched x = variables();
        x.begins(SHARED_B, true);
        for (int p : USUAL_POINTS) {
            usualAct(x, p);
        }
        for (int[] way : USUAL_WAYS) {
            x.next(way[0], way[1], true);
        }
        return x;
    }

    /** Gives a point of the usual object its act. */
    static void usualAct(Watched x, int p) {
        switch (p) {
            case 0 -> x.lend(0, SOLE_A, PLAIN_THREE, 2);
            case 1 -> x.lend(1, SHARED_A, PLAIN_ONE, 0);
            case 2 -> x.lend(2, SOLE_B, SOLE_A, path(BEHIND, 1));
            case 3 -> x.act(3, MOVE, PLAIN_THREE, 3);
            case 4 -> x.act(4, GIVE, PLAIN_ONE, path(1, 6));
            case 5 -> x.act(5, READ, SHARED_A, BEHIND);
            case 6 -> x.copy(6, SHARED_A, SHARED_B);
            case 7 -> x.act(7, CHANGE, SOLE_B, BEHIND);
            case 8 -> x.act(8, LET, SHARED_B, 0);
            case 149 -> x.act(149, END, PLAIN_THREE, 0);
            default -> x.act(p, NOTHING, 0, 0);
        }
    }

    /** The usual object with ten variables more, sixteen in all, of which the last is a sole reference. */
    static Watched full() {
        Watched x = usual();
        for (int v = USUAL_VARIABLES; v < 16; v++) {
            x.variable((v + 2) % 3, 1);
        }
        return x;
    }

    private static final Supplier<Watched> USUAL = Cases::usual;
    private static final Supplier<Watched> FULL = Cases::full;

    /** The call answers NONE on the usual object, which then answers as one without that call. */
    static void refused(String what, ToIntFunction<Watched> call) {
        refused(USUAL, USUAL_POINTS, what, call);
    }

    /** The call answers NONE on the object with sixteen variables, and changes nothing of it. */
    static void refusedOnFull(String what, ToIntFunction<Watched> call) {
        refused(FULL, USUAL_POINTS, what, call);
    }

    /** A call on a point, and its answer. */
    interface PointCall {
        int on(Watched x, int p);
    }

    /** The call is refused at each point of the usual object, whatever act the point has. */
    static void refusedAtEach(String what, PointCall call) {
        for (int p : USUAL_POINTS) {
            refused(what + " at point " + p, x -> call.on(x, p));
        }
    }

    static void refused(Supplier<Watched> make, int[] points, String what, ToIntFunction<Watched> call) {
        List<Integer> before = untouched.computeIfAbsent(make, m -> allAnswers(m, points));
        List<Integer> after = allAnswers(() -> {
            Watched x = make.get();
            due(what, call.applyAsInt(x), NONE);
            return x;
        }, points);
        if (!before.equals(after)) {
            isWrong(name + ": " + what + " has changed something");
        }
    }

    /** What has been changed and changed back answers all questions as the usual object does. */
    static void isUsualAgain(String what, Supplier<Watched> make) {
        List<Integer> usual = untouched.computeIfAbsent(USUAL, m -> allAnswers(m, USUAL_POINTS));
        if (!usual.equals(allAnswers(make, USUAL_POINTS))) {
            isWrong(name + ": " + what + " is not changed back");
        }
    }

    /** Asks all that can be asked of these points, on as many objects as 512 calls for each need. */
    private static List<Integer> allAnswers(Supplier<Watched> make, int[] points) {
        List<Integer> answers = new ArrayList<>();
        Watched x = make.get();
        for (ToIntFunction<Watched> question : questions(x.count(0), points)) {
            if (x.calls() == Watched.MOST_CALLS) {
                x = make.get();
            }
            answers.add(question.applyAsInt(x));
        }
        addRoomLeft(answers, make, points);
        return answers;
    }

    private static List<ToIntFunction<Watched>> questions(int variables, int[] points) {
        List<ToIntFunction<Watched>> all = new ArrayList<>();
        all.add(Watched::judge);
        all.add(x -> x.fault(1));
        all.add(x -> x.fault(2));
        for (int what = 0; what <= 5; what++) {
            int asked = what;
            all.add(x -> x.count(asked));
        }
        for (int p : points) {
            all.add(x -> x.comes(p));
            for (int l : points) {
                all.add(x -> x.force(l, p));
            }
            for (int v = 0; v < variables; v++) {
                addQuestions(all, p, v, points);
            }
        }
        return all;
    }

    private static void addQuestions(List<ToIntFunction<Watched>> all, int p, int v, int[] loans) {
        all.add(x -> x.used(p, v));
        for (int leaf = 0; leaf < 4; leaf++) {
            int asked = leaf;
            all.add(x -> x.held(p, v, asked));
        }
        for (int l : loans) {
            all.add(x -> x.holds(p, v, l));
        }
    }

    /** How many variables, points next and lends there is still room for. */
    private static void addRoomLeft(List<Integer> answers, Supplier<Watched> make, int[] points) {
        Watched x = make.get();
        for (int i = 0; i < 17; i++) {
            answers.add(x.variable(0, 1));
        }
        Watched y = make.get();
        for (int i = 0; i < points.length && y.calls() < Watched.MOST_CALLS - 6; i++) {
            for (int q = 0; q < 5; q++) {
                answers.add(y.next(points[i], LEAST_ROOM + q, true));
            }
        }
        Watched z = make.get();
        for (int q = 61; q < 122; q++) {
            answers.add(z.lend(q, SHARED_A, PLAIN_ONE, 0));
        }
    }
}
