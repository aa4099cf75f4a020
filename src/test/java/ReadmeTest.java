import java.lang.reflect.Method;
import java.nio.charset.StandardCharsets;
import java.nio.file.Files;
import java.nio.file.Path;
import java.util.ArrayList;
import java.util.List;
import java.util.regex.Matcher;
import java.util.regex.Pattern;

/** What README.md shows is so: each call of its examples answers what stands behind it. */
public final class ReadmeTest {
    private static final Path README = Path.of("README.md");
    private static final Path SELF = Path.of("src/test/java/ReadmeTest.java");
    private static final Pattern CALL = Pattern.compile("x\\.(\\w+)\\(([^)]*)\\);\\s*(?://\\s*(-?\\d+).*)?");
    private static final Pattern TOLD = Pattern.compile("tell\\(x, (.*)\\);\\s*//\\s*(-?\\d+).*");
    private static final Pattern QUOTED = Pattern.compile("\"([^\"]*)\"");
    private static final String HELPER = "static int tell(";

    private ReadmeTest() {
    }

    public static void main(String[] args) throws Exception {
        String readme = Files.readString(README, StandardCharsets.UTF_8);
        List<String> blocks = javaBlocks(readme);
        Checks.due("blocks of Java", blocks.size(), 4);
        WaxedPartners x = new WaxedPartners();
        for (String block : blocks) {
            if (block.startsWith(HELPER)) {
                sameHelper(block);
            } else {
                run(x, block);
            }
        }
        everyCallNamed(readme);
        Checks.end();
    }

    private static List<String> javaBlocks(String readme) {
        List<String> blocks = new ArrayList<>();
        Matcher found = Pattern.compile("```java\n(.*?)```", Pattern.DOTALL).matcher(readme);
        while (found.find()) {
            blocks.add(found.group(1));
        }
        return blocks;
    }

    /** The helper that README shows is the one below, so that it is compiled and run. */
    private static void sameHelper(String block) throws Exception {
        Checks.section("tell() in README");
        String self = Files.readString(SELF, StandardCharsets.UTF_8).replaceAll("\\s+", " ");
        Checks.due("stands in this test", self.contains(block.strip().replaceAll("\\s+", " ")) ? 1 : 0, 1);
    }

    private static void run(WaxedPartners x, String block) throws Exception {
        Checks.section("README");
        String[] statements = block.replaceAll("\n\\s+\\+", " +").split("\n");
        for (String statement : statements) {
            Matcher call = CALL.matcher(statement);
            Matcher told = TOLD.matcher(statement);
            if (told.matches()) {
                Checks.due(statement, tell(x, quoted(told.group(1))), Integer.parseInt(told.group(2)));
            } else if (call.matches()) {
                boolean answered = call.group(3) != null;
                Checks.due("is told: " + statement, answered ? 1 : 0, 1);
                int due = answered ? Integer.parseInt(call.group(3)) : 0;
                Checks.due(statement, answer(x, call.group(1), call.group(2)), due);
            } else {
                Checks.due(statement, statement.equals("WaxedPartners x = new WaxedPartners();") ? 1 : 0, 1);
            }
        }
    }

    private static String quoted(String joined) {
        StringBuilder text = new StringBuilder();
        Matcher part = QUOTED.matcher(joined);
        while (part.find()) {
            text.append(part.group(1));
        }
        return text.toString();
    }

    private static int answer(WaxedPartners x, String name, String given) throws Exception {
        String[] numbers = given.isEmpty() ? new String[0] : given.split(", ");
        for (Method method : WaxedPartners.class.getMethods()) {
            if (method.getName().equals(name) && method.getParameterCount() == numbers.length) {
                Object[] values = new Object[numbers.length];
                for (int i = 0; i < values.length; i++) {
                    boolean narrow = method.getParameterTypes()[i] == int.class;
                    values[i] = narrow ? (Object) Integer.valueOf(numbers[i]) : (Object) Long.valueOf(numbers[i]);
                }
                return (Integer) method.invoke(x, values);
            }
        }
        Checks.due("there is a call " + name, 0, 1);
        return 0;
    }

    private static void everyCallNamed(String readme) {
        Checks.section("README's table");
        for (Method method : WaxedPartners.class.getDeclaredMethods()) {
            if (java.lang.reflect.Modifier.isPublic(method.getModifiers())) {
                Checks.due(method.getName(), readme.contains("`" + method.getName() + "`") ? 1 : 0, 1);
            }
        }
    }

    static int tell(WaxedPartners x, String text) {
        for (int i = 0; i < text.length(); i += 20) {
            int[] four = new int[5];
            for (int b = 0; b < 20; b++) {
                four[b / 4] = four[b / 4] << 8 | (i + b < text.length() ? text.charAt(i + b) : ' ');
            }
            x.feed(four[0], four[1], four[2], four[3], four[4]);
        }
        x.end(text.length());
        return x.city();
    }
}
