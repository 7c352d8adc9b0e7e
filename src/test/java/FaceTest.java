import java.lang.reflect.Constructor;
import java.lang.reflect.Field;
import java.lang.reflect.Method;
import java.lang.reflect.Modifier;
import java.nio.file.Files;
import java.nio.file.Path;
import java.util.Arrays;
import java.util.Set;
import java.util.TreeSet;
import java.util.regex.Matcher;
import java.util.regex.Pattern;

/** The public face is the document's and no other, and the source keeps off what is forbidden. */
public final class FaceTest {
    private static int wrong = 0;

    private static void due(String what, Object got, Object want) {
        if (!got.equals(want)) {
            wrong++;
            System.out.println(what + ": got " + got + ", due is " + want);
        }
    }

    private static final Set<String> FACE = new TreeSet<>(Arrays.asList(
            "public static final int NONE",
            "public LoanWays()",
            "public int variable(int, int)",
            "public int begins(int, boolean)",
            "public int act(int, int, int, int)",
            "public int lend(int, int, int, int)",
            "public int copy(int, int, int)",
            "public int next(int, int, boolean)",
            "public int judge()",
            "public int fault(int)",
            "public int comes(int)",
            "public int held(int, int, int)",
            "public int holds(int, int, int)",
            "public int used(int, int)",
            "public int force(int, int)",
            "public int count(int)"));

    private static final Set<String> BROUGHT = Set.of("java.util.Arrays", "java.util.ArrayList", "java.util.List",
            "java.util.Iterator");

    private static String parameters(Class<?>[] types) {
        StringBuilder text = new StringBuilder("(");
        for (int i = 0; i < types.length; i++) {
            text.append(i == 0 ? "" : ", ").append(types[i].getName());
        }
        return text.append(")").toString();
    }

    private static void checkFace() {
        Set<String> face = new TreeSet<>();
        for (Field f : LoanWays.class.getDeclaredFields()) {
            if (!Modifier.isPrivate(f.getModifiers())) {
                face.add(Modifier.toString(f.getModifiers()) + " " + f.getType() + " " + f.getName());
            }
            if (Modifier.isStatic(f.getModifiers())) {
                due("final: " + f.getName(), Modifier.isFinal(f.getModifiers()), true);
            }
        }
        for (Constructor<?> c : LoanWays.class.getDeclaredConstructors()) {
            face.add(Modifier.toString(c.getModifiers()) + " LoanWays" + parameters(c.getParameterTypes()));
        }
        Set<String> open = new TreeSet<>();
        for (Method m : LoanWays.class.getDeclaredMethods()) {
            if (!Modifier.isPrivate(m.getModifiers())) {
                open.add(m.getName());
                face.add(Modifier.toString(m.getModifiers()) + " " + m.getReturnType() + " "
                        + m.getName() + parameters(m.getParameterTypes()));
            }
        }
        due("the face", face, FACE);
        due("the class", Modifier.toString(LoanWays.class.getModifiers()), "public final");
        checkMethods(LoanWays.class, open);
        for (Class<?> inside : LoanWays.class.getDeclaredClasses()) {
            due("static: " + inside, Modifier.isStatic(inside.getModifiers()), true);
            checkMethods(inside, open);
        }
    }

    private static void checkMethods(Class<?> in, Set<String> open) {
        for (Method m : in.getDeclaredMethods()) {
            boolean named = Modifier.isPrivate(m.getModifiers()) && open.contains(m.getName());
            due("a private method with the name of a public one: " + m, named, false);
            due("at most seven parameters: " + m, m.getParameterCount() <= 7, true);
        }
    }

    private static void checkSource() throws Exception {
        String source = Files.readString(Path.of("src/main/java/LoanWays.java"));
        String code = source.replaceAll("(?s)/\\*.*?\\*/", " ").replaceAll("//[^\n]*", " ")
                .replaceAll("\\b(case\\b[^;{}]*?|default\\s*)->", " ");
        Matcher banned = Pattern.compile("\\b(throw|throws|try|catch|finally|synchronized|assert|package"
                + "|protected|volatile|native|\\w+Exact|Random|System\\.(?!arraycopy)\\w+|Thread)\\b|->|::")
                .matcher(code);
        while (banned.find()) {
            due("forbidden: " + banned.group(), true, false);
        }
        Matcher brought = Pattern.compile("\\bimport\\s+([\\w.*]+)").matcher(code);
        while (brought.find()) {
            due("the import " + brought.group(1), BROUGHT.contains(brought.group(1)), true);
        }
    }

    public static void main(String[] args) throws Exception {
        checkFace();
        checkSource();
        System.out.println(wrong == 0 ? "the face is as due" : wrong + " things are not as due");
        if (wrong != 0) {
            System.exit(1);
        }
    }
}
