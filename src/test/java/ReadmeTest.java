import java.io.IOException;
import java.lang.reflect.Method;
import java.lang.reflect.Modifier;
import java.nio.file.Files;
import java.nio.file.Path;
import java.util.List;
import java.util.stream.Stream;

/** README.md must tell what the class does: its example is run, and it leaves out no method and no test. */
public final class ReadmeTest {
    private static final Path README = Path.of("README.md");
    private static final Path TESTS = Path.of("src/test/java");

    private static int wrong = 0;
    private static List<String> example = List.of();
    private static int line = 0;

    public static void main(String[] args) throws IOException {
        String readme = Files.readString(README);
        example = codeBlock(readme);
        runExample();
        methodsAreNamed(readme);
        testsAreNamed(readme);
        need("README.md names the command that runs the tests", readme.contains("\n    .ci/run\n"));
        System.out.println(wrong == 0 ? "all of README.md holds" : wrong + " lines of README.md do not hold");
        if (wrong != 0) {
            System.exit(1);
        }
    }

    private static void need(String what, boolean holds) {
        if (!holds) {
            wrong++;
            System.out.println("does not hold: " + what);
        }
    }

    private static List<String> codeBlock(String readme) {
        int from = readme.indexOf("```java\n") + "```java\n".length();
        return readme.substring(from, readme.indexOf("```", from)).lines().toList();
    }

    /** The next line of the example must be this code, with this answer first in its comment. */
    private static void shows(String code, Object answer) {
        String shown = line < example.size() ? example.get(line) : "";
        line++;
        String[] parts = shown.split("// ", 2);
        need("\"" + shown + "\" is the call " + code, parts[0].strip().equals(code));
        String comment = parts.length == 2 ? parts[1] : "";
        need("\"" + shown + "\" answers " + answer, comment.split(":", 2)[0].equals(String.valueOf(answer)));
    }

    private static void runExample() {
        SupplyDesk desk = new SupplyDesk();
        need("the example begins with a new object", example.get(line++).equals("SupplyDesk desk = new SupplyDesk();"));
        int straight = desk.add(0, 2, 2 + 4 * (5 + 9));
        shows("int straight = desk.add(0, 2, 2 + 4 * (5 + 9));", straight);
        int out = desk.add(0, 1, 3 + 4 * (2 + 9));
        shows("int out = desk.add(0, 1, 3 + 4 * (2 + 9));", out);
        int on = desk.add(1, 2, 3 + 4 * (2 + 9));
        shows("int on = desk.add(1, 2, 3 + 4 * (2 + 9));", on);
        shows("desk.balance(0, 4);", desk.balance(0, 4));
        shows("desk.balance(2, -4);", desk.balance(2, -4));
        shows("desk.least();", desk.least());
        shows("desk.first(straight);", desk.first(straight));
        shows("desk.first(out);", desk.first(out));
        shows("desk.leastWith(straight, 2);", desk.leastWith(straight, 2));
        shows("desk.worth(out);", desk.worth(out));
        shows("desk.change(on, 2 + 4 * (2 + 9));", desk.change(on, 2 + 4 * (2 + 9)));
        shows("desk.worth(on);", desk.worth(on));
        shows("desk.spare(0, 2);", desk.spare(0, 2));
        shows("desk.shifted(0, 2);", desk.shifted(0, 2));
        shows("desk.remove(on);", desk.remove(on));
        shows("desk.possible();", desk.possible());
        need("the example ends where this test does", line == example.size());
    }

    private static void methodsAreNamed(String readme) {
        for (Method m : SupplyDesk.class.getDeclaredMethods()) {
            need("README.md names " + m.getName(),
                    !Modifier.isPublic(m.getModifiers()) || readme.contains("`" + m.getName() + "("));
        }
    }

    private static void testsAreNamed(String readme) throws IOException {
        try (Stream<Path> files = Files.list(TESTS)) {
            for (Path file : files.toList()) {
                String name = file.getFileName().toString().replace(".java", "");
                need("README.md names " + name, readme.contains("- `" + name + "`:"));
            }
        }
    }
}
