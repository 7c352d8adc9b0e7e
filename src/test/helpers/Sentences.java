import java.io.IOException;
import java.lang.reflect.Method;
import java.nio.file.Files;
import java.nio.file.Path;
import java.util.regex.Matcher;
import java.util.regex.Pattern;

/** Sees that the cases quote the document as it is, and leave out none of its words. */
final class Sentences {
    private static final Path DOCUMENT = Path.of("../shared/DOC.md");

    private Sentences() {
    }

    /**
     * The cases whose name begins so quote each word of the section, and no words beside it. Where the
     * document is not at hand the cases are run all the same.
     */
    static void areAllQuoted(String heading, Class<?> tests, String caseNames) throws IOException {
        if (!Files.isReadable(DOCUMENT)) {
            System.out.println("not compared, as there is no " + DOCUMENT + ": " + heading);
            return;
        }
        String text = section(heading);
        boolean[] quoted = new boolean[text.length()];
        for (Method m : tests.getDeclaredMethods()) {
            Says says = m.getAnnotation(Says.class);
            if (says != null && m.getName().startsWith(caseNames)) {
                for (String quote : says.value()) {
                    mark(text, quote, quoted, m.getName());
                }
            }
        }
        tellUnquoted(text, quoted, heading);
    }

    /** Without the signature, which FaceTest looks at, and without the marks around a block. */
    private static String section(String heading) throws IOException {
        String document = Files.readString(DOCUMENT);
        Matcher found = Pattern.compile("(?ms)^## " + Pattern.quote(heading) + "[^\n]*\n(.*?)(?=^## |\\z)").matcher(document);
        if (!found.find()) {
            Cases.isWrong("the document has no section " + heading);
            return "";
        }
        String body = found.group(1).replaceAll("```\\w*", " ").replaceAll("(?m)^`[^`]*`:", " ");
        return body.replaceAll("\\s+", " ").trim();
    }

    private static void mark(String text, String quote, boolean[] quoted, String name) {
        int from = text.indexOf(quote);
        if (from < 0) {
            Cases.isWrong(name + " quotes what the document does not say: " + quote);
            return;
        }
        for (int i = 0; i < quote.length(); i++) {
            quoted[from + i] = true;
        }
    }

    private static void tellUnquoted(String text, boolean[] quoted, String heading) {
        StringBuilder left = new StringBuilder();
        for (int i = 0; i < text.length(); i++) {
            left.append(quoted[i] ? '\n' : text.charAt(i));
        }
        for (String piece : left.toString().split("\n")) {
            if (!piece.isBlank()) {
                Cases.isWrong("no case quotes, of " + heading + ": " + piece.trim());
            }
        }
    }
}
