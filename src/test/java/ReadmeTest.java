import java.io.ByteArrayOutputStream;
import java.io.File;
import java.io.PrintStream;
import java.lang.reflect.Method;
import java.lang.reflect.Modifier;
import java.nio.file.Files;
import java.nio.file.Path;
import java.util.regex.Matcher;
import java.util.regex.Pattern;

/** README.md tells of each call with all its arguments, of each test, and its example does what it says. */
public final class ReadmeTest {
    private static int asked = 0;
    private static int wrong = 0;

    public static void main(String[] args) throws Exception {
        String readme = Files.readString(Path.of("README.md"));
        example(readme);
        calls(readme);
        tests(readme);
        for (String word : new String[] {"**NONE**", "**-2**", "**-100**", "`.ci/run`", "512 calls", "2,000 bytes"}) {
            need(readme.contains(word), "README.md says " + word);
        }
        System.out.println(asked + " things told in README.md, " + wrong + " not so");
        if (wrong != 0) {
            System.exit(1);
        }
    }

    private static void need(boolean is, String what) {
        asked++;
        if (!is) {
            wrong++;
            System.out.println("not so: " + what);
        }
    }

    private static void example(String readme) throws Exception {
        String source = Files.readString(Path.of("src/test/java/Example.java"));
        need(readme.contains("```java\n" + source + "```\n"), "Example.java stands in README.md as it is");
        need(readme.contains("```text\n" + printed() + "```\n"), "what it prints stands in README.md:\n" + printed());
    }

    private static String printed() {
        PrintStream before = System.out;
        ByteArrayOutputStream bytes = new ByteArrayOutputStream();
        System.setOut(new PrintStream(bytes));
        Example.main(new String[0]);
        System.out.flush();
        System.setOut(before);
        return bytes.toString().replace(System.lineSeparator(), "\n");
    }

    /** Each call stands at the beginning of a table's row, as in `back(n)`, with as many arguments as it takes. */
    private static void calls(String readme) {
        for (Method m : SchoolRides.class.getDeclaredMethods()) {
            if (Modifier.isPublic(m.getModifiers())) {
                Matcher row = Pattern.compile("(?m)^\\| `" + m.getName() + "\\(([^)]*)\\)` \\|").matcher(readme);
                boolean found = row.find();
                int arguments = !found || row.group(1).isEmpty() ? 0 : row.group(1).split(", ").length;
                need(found && arguments == m.getParameterCount(), "README.md tells of " + m);
            }
        }
    }

    private static void tests(String readme) {
        for (String name : new File("src/test/java").list()) {
            if (name.endsWith("Test.java")) {
                need(readme.contains("`" + name.replace(".java", "") + "`"), "README.md tells of " + name);
            }
        }
    }
}
