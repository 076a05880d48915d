import java.io.IOException;
import java.lang.reflect.Method;
import java.lang.reflect.Modifier;
import java.nio.file.Files;
import java.nio.file.Path;
import java.util.List;
import java.util.regex.Matcher;
import java.util.regex.Pattern;

/** README.md: each of its examples is run, and must answer what it says there; every call is named. */
public final class ReadmeTest {
    private static final Pattern MADE = Pattern.compile("AgingLetters x = new AgingLetters\\(\\);");
    private static final Pattern FED = Pattern.compile("for \\(char c : \"([^\"]+)\"\\.toCharArray\\(\\)\\) x\\.feed\\(c\\);");
    private static final Pattern CALLED = Pattern.compile("x\\.(\\w+\\([-\\d, ]*\\)); +// (-?\\d+)\\b.*");

    public static void main(String[] args) throws IOException {
        Path source = Path.of(args.length > 0 ? args[0] : "src/main/java/AgingLetters.java").toAbsolutePath();
        // From src/main/java/AgingLetters.java up to where README.md stands.
        Path readme = source.getParent().getParent().getParent().resolveSibling("README.md");
        String page = Files.readString(readme);
        everyCallIsNamed(page);
        examples(page.lines().toList());
        Run.end();
    }

    private static void everyCallIsNamed(String page) {
        Run.says("README.md says how to use the class");
        for (Method m : AgingLetters.class.getDeclaredMethods()) {
            if (!Modifier.isPublic(m.getModifiers())) continue;
            int numbers = m.getParameterCount();
            String names = numbers == 0 ? "" : "\\w+" + ", \\w+".repeat(numbers - 1);
            boolean named = Pattern.compile("`" + m.getName() + "\\(" + names + "\\)`").matcher(page).find();
            Run.fresh().same(m.getName() + " is named with its " + numbers + " numbers", 1, named ? 1 : 0);
        }
    }

    private static void examples(List<String> lines) {
        Run run = Run.fresh();
        boolean inExample = false;
        int examples = 0;
        for (String line : lines) {
            if (line.startsWith("```")) {
                inExample = line.equals("```java");
                if (inExample) Run.says("README.md, example " + ++examples);
            } else if (inExample) {
                run = step(run, line);
            }
        }
        Run.says("README.md has examples");
        run.same("examples", 3, examples);
    }

    /** The object that goes on behind this line of an example. */
    private static Run step(Run run, String line) {
        if (MADE.matcher(line).matches()) return Run.fresh();
        Matcher fed = FED.matcher(line);
        if (fed.matches()) return run.feedAll(fed.group(1));
        Matcher called = CALLED.matcher(line);
        if (called.matches()) return run.due(called.group(1), Integer.parseInt(called.group(2)));
        run.same("a line that can be run: " + line, 1, 0);
        return run;
    }
}
