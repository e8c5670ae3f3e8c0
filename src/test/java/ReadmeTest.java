import java.lang.reflect.Method;
import java.lang.reflect.Modifier;
import java.nio.file.Files;
import java.nio.file.Path;
import java.util.List;
import java.util.Set;
import java.util.TreeSet;
import java.util.regex.Matcher;
import java.util.regex.Pattern;
import java.util.stream.Stream;

/** What README.md shows is as the class answers: its lines of Java are one run on one object. */
public final class ReadmeTest {
    private static final Path README = Path.of("README.md");
    private static final Path TESTS = Path.of("src/test/java");

    private static final Pattern CALL =
            Pattern.compile("valley\\.(\\w+)\\(([^)]*)\\);\\s+// (-?\\d+|[A-Z]+( [A-Z]+)?)(:.*|,.*)?");
    private static final Pattern DAY =
            Pattern.compile("for \\(char sign : \"(\\S+)\"\\.toCharArray\\(\\)\\) \\{ valley\\.say\\(sign\\); \\}");
    private static final Pattern CONSTANT = Pattern.compile("\\W*`([A-Z]+)`[^-]*(-\\d+).*");

    private static final Script SCRIPT = new Script();

    private final Set<String> shown = new TreeSet<>();
    private final OddShoes valley = new OddShoes();

    private ReadmeTest() {
    }

    public static void main(String[] args) throws Exception {
        List<String> lines = Files.readAllLines(README);
        new ReadmeTest().checkRun(lines);
        checkConstants(lines);
        checkTestsAreNamed(String.join("\n", lines));
        SCRIPT.end();
    }

    private void checkRun(List<String> lines) {
        boolean isJava = false;
        for (String line : lines) {
            if (line.startsWith("```")) {
                isJava = line.equals("```java");
            } else if (isJava && !line.equals("OddShoes valley = new OddShoes();")) {
                checkLine(line);
            }
        }
        for (Method method : OddShoes.class.getDeclaredMethods()) {
            boolean isOfFace = Modifier.isPublic(method.getModifiers());
            SCRIPT.expect("README.md shows no " + method.getName(),
                    !isOfFace || shown.contains(method.getName()));
        }
    }

    private void checkLine(String line) {
        Matcher day = DAY.matcher(line);
        Matcher call = CALL.matcher(line);
        if (day.matches()) {
            for (char sign : day.group(1).toCharArray()) {
                SCRIPT.expect(line, valley.say(sign) > 0);
            }
        } else if (call.matches()) {
            shown.add(call.group(1));
            long got = Script.ask(valley, call.group(1), argumentsOf(call.group(2)));
            SCRIPT.expect(line + " -- answered " + got, got == Script.numberOf(call.group(3)));
        } else {
            SCRIPT.expect("no call with its answer: " + line, false);
        }
    }

    private static Object[] argumentsOf(String inside) {
        String[] parts = inside.isEmpty() ? new String[0] : inside.split(", ");
        Object[] arguments = new Object[parts.length];
        for (int i = 0; i < parts.length; i++) {
            boolean isSign = parts[i].startsWith("'");
            arguments[i] = isSign ? (int) parts[i].charAt(1) : Integer.parseInt(parts[i]);
        }
        return arguments;
    }

    private static void checkConstants(List<String> lines) throws ReflectiveOperationException {
        Set<String> named = new TreeSet<>();
        for (String line : lines) {
            Matcher constant = CONSTANT.matcher(line);
            if (constant.matches()) {
                named.add(constant.group(1));
                Number value = (Number) OddShoes.class.getField(constant.group(1)).get(null);
                SCRIPT.expect(line, value.longValue() == Long.parseLong(constant.group(2)));
            }
        }
        SCRIPT.expect("README.md tells the constants " + named, named.equals(
                Set.of("NONE", "UNKNOWN", "OUTSIDE", "STATE", "FULL", "NO", "LOST")));
    }

    private static void checkTestsAreNamed(String readme) throws Exception {
        try (Stream<Path> files = Files.list(TESTS)) {
            for (Path file : files.toList()) {
                String name = file.getFileName().toString().replace(".java", "");
                SCRIPT.expect("README.md does not name " + name, readme.contains("`" + name + "`"));
            }
        }
        SCRIPT.expect("README.md says how tests are run", readme.contains("    bash .ci/run\n"));
    }
}
