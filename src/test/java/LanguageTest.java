import java.nio.charset.StandardCharsets;
import java.nio.file.Files;
import java.nio.file.Path;
import java.util.regex.Matcher;
import java.util.regex.Pattern;

/** What of LANGUAGE.md can be seen in the text of the program without understanding it. */
public final class LanguageTest {
    private static final Path PROGRAM = Path.of("src/main/java/WaxedPartners.java");
    private static final int LONGEST_METHOD = 60;
    private static final int MOST_CLASSES = 12;

    private static final String[] FORBIDDEN = {
        "\\bthrow\\b", "\\bthrows\\b", "\\btry\\b", "\\bcatch\\b", "\\bsynchronized\\b", "\\bassert\\b",
        "->", "::", "Exact\\b", "\\bimport\\b", "\\bpackage\\b", "static\\s*\\{", "\\bvar\\b", "\\bnative\\b",
        "\\bfloat\\b", "\\bdouble\\b", "\\bObject\\b", "\\bThread\\b", "\\bRandom\\b", "\\bequals\\b",
        "\\bhashCode\\b", "\\btoString\\b", "System\\.(?!arraycopy\\b)", "Math\\.(?!max\\b|min\\b|abs\\b)",
        "Long\\.(?!compare\\b)", "Integer\\.(?!bitCount\\b)", "\\bString\\.", "\"\\s*\\+", "\\+\\s*\"",
        "while\\s*\\(true\\)", "for\\s*\\(;;", "\\binstanceof\\b"};

    private LanguageTest() {
    }

    public static void main(String[] args) throws Exception {
        String whole = Files.readString(PROGRAM, StandardCharsets.UTF_8);
        String code = withoutComments(whole);
        forbidden(code);
        characters(whole);
        statics(code);
        methods(code);
        Checks.end();
    }

    private static String withoutComments(String text) {
        return Pattern.compile("/\\*.*?\\*/", Pattern.DOTALL).matcher(text).replaceAll("")
                .replaceAll("//[^\n]*", "");
    }

    private static void forbidden(String code) {
        Checks.section("forbidden");
        for (String pattern : FORBIDDEN) {
            Matcher found = Pattern.compile(pattern).matcher(code);
            Checks.due(pattern, found.find() ? 1 : 0, 0);
        }
    }

    private static void characters(String whole) {
        Checks.section("characters");
        Checks.due("signs above 127", whole.chars().filter(c -> c > 127).count(), 0);
    }

    private static void statics(String code) {
        Checks.section("static state");
        for (String line : code.split("\n")) {
            boolean field = line.matches("\\s*(public |private )?static .*[;{]\\s*") && !line.contains("(")
                    && !line.contains(" class ");
            if (field) {
                Checks.due(line, line.contains(" final ") ? 1 : 0, 1);
            }
        }
        Matcher classes = Pattern.compile("\\bclass\\s+\\w+").matcher(code);
        int found = 0;
        while (classes.find()) {
            found++;
        }
        Checks.due("few classes", found <= MOST_CLASSES ? 1 : 0, 1);
        // only constructors and fields make anything: a call would make it each time
        Matcher made = Pattern.compile("\n([^\n]*)\\bnew\\b").matcher(code);
        while (made.find()) {
            String line = made.group(1);
            boolean once = line.matches("        (private )?final .*|        Town town = |        (reader|slots|images|decade"
                    + "|crowd|gum|town) = |            (slots|images)\\[\\w+\\] = ");
            Checks.due("made once: " + line, once ? 1 : 0, 1);
        }
    }

    private static void methods(String code) {
        Checks.section("methods");
        String[] lines = code.split("\n");
        for (int i = 0; i < lines.length; i++) {
            Matcher head = Pattern.compile("^( {4}| {8})(?! )[^=;]*\\(([^=;]*)\\) \\{$").matcher(lines[i]);
            if (!head.find()) {
                continue;
            }
            int end = i;
            while (!lines[end].equals(head.group(1) + "}")) {
                end++;
            }
            Checks.due("short: " + lines[i], end - i <= LONGEST_METHOD ? 1 : 0, 1);
            int parameters = head.group(2).isEmpty() ? 0 : head.group(2).split(",").length;
            Checks.due("few parameters: " + lines[i], parameters <= 7 ? 1 : 0, 1);
        }
    }
}
