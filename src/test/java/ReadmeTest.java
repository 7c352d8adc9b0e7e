import java.io.IOException;
import java.lang.reflect.Method;
import java.lang.reflect.Modifier;
import java.nio.file.Files;
import java.nio.file.Path;
import java.util.ArrayList;
import java.util.Collections;
import java.util.Comparator;
import java.util.List;
import java.util.Set;
import java.util.TreeSet;
import java.util.regex.Matcher;
import java.util.regex.Pattern;
import java.util.stream.Stream;

/** What stands in README.md holds as it is written there. */
public final class ReadmeTest {
    private static final Path CLASS = Path.of("src/main/java/LoanWays.java");
    private static final Path SCRIPT = Path.of(".ci/run");
    private static final Path TESTS = Path.of("src/test/java");

    private static int wrong = 0;

    private static void due(String what, Object got, Object want) {
        if (!got.equals(want)) {
            wrong++;
            System.out.println(what + ": got " + got + ", due is " + want);
        }
    }

    /** The blocks of one kind, in their order. */
    private static List<String> blocks(String readme, String kind) {
        List<String> found = new ArrayList<>();
        Matcher block = Pattern.compile("(?s)```" + kind + "\n(.*?)```").matcher(readme);
        while (block.find()) {
            found.add(block.group(1));
        }
        return found;
    }

    private static String told = "";

    /** Runs the commands there, keeps what they print but for errors, and answers their exit code. */
    private static int shell(Path where, String commands) throws Exception {
        Process process = new ProcessBuilder("sh", "-e", "-c", commands).directory(where.toFile())
                .redirectError(ProcessBuilder.Redirect.DISCARD).start();
        process.getOutputStream().close();
        told = new String(process.getInputStream().readAllBytes());
        return process.waitFor();
    }

    private static void write(Path file, String text) throws IOException {
        Files.createDirectories(file.getParent());
        Files.writeString(file, text);
    }

    private static void checkExample(String readme, Path room) throws Exception {
        Path checkout = room.resolve("example");
        write(checkout.resolve(CLASS), Files.readString(CLASS));
        write(checkout.resolve("Example.java"), blocks(readme, "java").get(0));
        due("exit code of the example", shell(checkout, blocks(readme, "sh").get(0)), 0);
        due("what the example prints", told, blocks(readme, "text").get(0));
    }

    private static void checkCalls(String readme) {
        for (Method m : LoanWays.class.getDeclaredMethods()) {
            if (Modifier.isPublic(m.getModifiers())) {
                String parameters = String.join(", ", Collections.nCopies(m.getParameterCount(), "\\w+"));
                boolean named = Pattern.compile("`" + m.getName() + "\\(" + parameters + "\\)`").matcher(readme).find();
                due("the call is named: " + m.getName(), named, true);
            }
        }
    }

    /** Each test is told of, and no other one. */
    private static void checkNames(String readme) throws IOException {
        Set<String> tests = new TreeSet<>();
        try (Stream<Path> files = Files.list(TESTS)) {
            files.forEach(f -> tests.add(f.getFileName().toString().replace(".java", "")));
        }
        due("the tests", names(readme, "How to run its tests"), tests);
    }

    /** The names with which the items of a section begin. */
    private static Set<String> names(String readme, String heading) {
        String section = readme.substring(readme.indexOf("## " + heading)).replaceFirst("(?s)\n## .*", "");
        Set<String> found = new TreeSet<>();
        Matcher name = Pattern.compile("(?m)^- `(\\w+)`(?:, `(\\w+)`)?").matcher(section);
        while (name.find()) {
            found.add(name.group(1));
            if (name.group(2) != null) {
                found.add(name.group(2));
            }
        }
        return found;
    }

    private static String test(String name, int exit) {
        return "public final class " + name + " { public static void main(String[] a) { new LoanWays(); System.exit("
                + exit + "); } }";
    }

    /** The script in a checkout of its own, with one test beside it and one of its own. */
    private static int runScript(Path room, String shared, String own) throws Exception {
        Path all = Files.createTempDirectory(room, "script");
        Path checkout = all.resolve("checkout");
        write(checkout.resolve(SCRIPT), Files.readString(SCRIPT));
        write(checkout.resolve(CLASS), "public final class LoanWays { }");
        if (shared != null) {
            write(all.resolve("shared/tests/Shared.java"), shared);
        }
        if (own != null) {
            write(checkout.resolve(TESTS).resolve("Own.java"), own);
        }
        return shell(checkout, "sh " + SCRIPT);
    }

    private static void checkScript(String readme, Path room) throws Exception {
        due("the command", blocks(readme, "sh").get(1), SCRIPT + "\n");
        due("it may be run", Files.isExecutable(SCRIPT), true);
        String good = test("Shared", 0);
        due("all pass", runScript(room, good, test("Own", 0)), 0);
        due("both are told", told.contains("passed: ../shared/tests/Shared.java")
                && told.contains("passed: src/test/java/Own.java"), true);
        due("one of its own fails", runScript(room, good, test("Own", 1)), 1);
        due("it is told", told.contains("FAILED: src/test/java/Own.java"), true);
        due("one of the shared ones fails", runScript(room, test("Shared", 1), test("Own", 0)), 1);
        due("it is told", told.contains("FAILED: ../shared/tests/Shared.java"), true);
        due("the other one is run all the same", told.contains("passed: src/test/java/Own.java"), true);
        due("one does not compile", runScript(room, good, "no test"), 1);
        due("there are no shared tests", runScript(room, null, test("Own", 0)), 1);
        due("there are none of its own", runScript(room, good, null), 1);
    }

    private static void remove(Path room) throws IOException {
        try (Stream<Path> files = Files.walk(room)) {
            for (Path file : files.sorted(Comparator.reverseOrder()).toList()) {
                Files.delete(file);
            }
        }
    }

    public static void main(String[] args) throws Exception {
        String readme = Files.readString(Path.of("README.md"));
        Path room = Files.createTempDirectory("readme");
        try {
            checkExample(readme, room);
            checkCalls(readme);
            checkNames(readme);
            checkScript(readme, room);
        } finally {
            remove(room);
        }
        System.out.println(wrong == 0 ? "README.md holds" : wrong + " things in README.md do not hold");
        if (wrong != 0) {
            System.exit(1);
        }
    }
}
