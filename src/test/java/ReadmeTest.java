import java.io.IOException;
import java.lang.reflect.Method;
import java.lang.reflect.Modifier;
import java.nio.file.Files;
import java.nio.file.Path;
import java.util.List;
import java.util.regex.Matcher;
import java.util.regex.Pattern;
import java.util.stream.Stream;

/** README.md: what it shows is what the class answers, and it tells of every call and of every test. */
public final class ReadmeTest {
    private static final Pattern CALL = Pattern.compile("x\\.(\\w+)\\(([-\\d, ]*)\\); +// (-?\\d+)(?![\\w.]).*");
    private static final Pattern FED = Pattern.compile("for \\(char c : \"([^\"]*)\"\\.toCharArray\\(\\)\\) x\\.feed\\(c\\);");
    private static final Pattern HOLDS = Pattern.compile("Script\\.holds\\(\"([^\"]*)\", \"([^\"]*)\"\\);.*");

    public static void main(String[] args) throws IOException {
        String page = Files.readString(Path.of("README.md"));
        examples(page.lines().toList());
        calls(page);
        tests(page);
        Checks.end("ReadmeTest");
    }

    /** Every line that is shown as Java is run, so that none can be shown that this test does not know. */
    private static void examples(List<String> lines) {
        DearerByUse x = null;
        boolean shown = false;
        int calls = 0;
        for (String line : lines) {
            Matcher call = CALL.matcher(line);
            Matcher fed = FED.matcher(line);
            Matcher holds = HOLDS.matcher(line);
            if (line.startsWith("```")) {
                shown = line.equals("```java");
            } else if (!shown) {
                continue;
            } else if (line.equals("DearerByUse x = new DearerByUse();")) {
                x = new DearerByUse();
            } else if (call.matches()) {
                Checks.due(line, Script.call(x, call.group(1), call.group(2).replace(" ", "")), Long.parseLong(call.group(3)));
                calls++;
            } else if (fed.matches()) {
                Checks.feed(x, fed.group(1));
            } else if (holds.matches()) {
                Script.holds(holds.group(1), holds.group(2));
            } else {
                Checks.due("a line that can't be run: " + line, 0, 1);
            }
        }
        Checks.due("calls were shown", calls > 40 ? 1 : 0, 1);
    }

    /** The table tells of every call by its name and as many arguments as it takes. */
    private static void calls(String page) {
        for (Method m : DearerByUse.class.getDeclaredMethods()) {
            if (!Modifier.isPublic(m.getModifiers())) continue;
            String arguments = "\\w+, ".repeat(m.getParameterCount()).replaceAll(", $", "");
            boolean told = Pattern.compile("`" + m.getName() + "\\(" + arguments + "\\)`").matcher(page).find();
            Checks.due("tells of " + m, told ? 1 : 0, 1);
        }
    }

    private static void tests(String page) throws IOException {
        try (Stream<Path> files = Files.list(Path.of("src/test/java"))) {
            for (Path file : files.toList()) {
                String name = file.getFileName().toString().replace(".java", "");
                if (name.endsWith("Test")) Checks.due("tells of " + name, page.contains(name) ? 1 : 0, 1);
            }
        }
    }
}
