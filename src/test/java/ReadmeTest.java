import java.io.IOException;
import java.lang.reflect.Method;
import java.lang.reflect.Modifier;
import java.nio.file.Files;
import java.nio.file.Path;
import java.util.Set;
import java.util.TreeSet;
import java.util.regex.Matcher;
import java.util.regex.Pattern;
import java.util.stream.Stream;

/** What README.md says: the answers of its calls, the names of the tests, and its commands. */
public final class ReadmeTest {
    private static final Pattern EXAMPLE = Pattern.compile("(?s)```java\\n(.*?)```");
    private static final Pattern CALL = Pattern.compile("x\\.(\\w+\\([^)]*\\));");
    private static final Pattern FLOAT_CALL = Pattern.compile("Float\\.intBitsToFloat\\(x\\.(\\w+\\([^)]*\\))\\);");
    private static final Pattern WRITING =
        Pattern.compile("for \\(char sign : \"([^\"]*)\"\\.toCharArray\\(\\)\\) x\\.appendCharacter\\(sign\\);");
    private static final Pattern SIGN = Pattern.compile("'(.)'");
    private static final Pattern ANSWER = Pattern.compile("-?\\d+(\\.\\d+)?|[A-Z_]+");
    private static final Pattern COMMAND = Pattern.compile("(?m)^    (\\S.*)$");
    private static final Pattern TEST_NAME = Pattern.compile("`(\\w+Test)`");

    private static int wrong = 0;
    private static int examples = 0;
    private static final Set<String> called = new TreeSet<>();

    private static void check(boolean good, String what) {
        if (!good) {
            wrong++;
            System.out.println("not as due: " + what);
        }
    }

    private static void runExample(String example) {
        examples++;
        String[] lines = example.split("\n");
        check(lines[0].equals("PlainDrawing x = new PlainDrawing();"), "the first line of example " + examples);
        Script script = Script.run("README.md, example " + examples);
        for (int i = 1; i < lines.length; i++) runLine(script, lines[i]);
    }

    private static void runLine(Script script, String line) {
        int comment = line.indexOf("//");
        String code = (comment < 0 ? line : line.substring(0, comment)).strip();
        Matcher writing = WRITING.matcher(code);
        if (writing.matches()) {
            called.add("appendCharacter");
            script.write(writing.group(1));
            return;
        }
        boolean isFloat = code.startsWith("Float");
        Matcher call = (isFloat ? FLOAT_CALL : CALL).matcher(code);
        Matcher answer = ANSWER.matcher(comment < 0 ? "" : line.substring(comment + 2).strip());
        if (!call.matches() || !answer.lookingAt()) {
            check(false, "the form of the line '" + line + "'");
            return;
        }
        String asked = withNumbers(call.group(1));
        called.add(asked.substring(0, asked.indexOf('(')));
        script.same(line, script.ask(asked), answerOf(answer.group(), isFloat));
    }

    private static String withNumbers(String call) {
        Matcher sign = SIGN.matcher(call);
        return sign.replaceAll(found -> Integer.toString(found.group(1).charAt(0)));
    }

    private static int answerOf(String text, boolean isFloat) {
        if (isFloat) return Float.floatToIntBits(Float.parseFloat(text));
        switch (text) {
            case "INVALID_ARGUMENT": return PlainDrawing.INVALID_ARGUMENT;
            case "ILLEGAL_STATE": return PlainDrawing.ILLEGAL_STATE;
            case "CAPACITY_EXCEEDED": return PlainDrawing.CAPACITY_EXCEEDED;
            case "NONE": return PlainDrawing.NONE;
            default: return Integer.parseInt(text);
        }
    }

    private static void checkThatAllCallsAreShown() {
        Set<String> due = new TreeSet<>();
        for (Method method : PlainDrawing.class.getDeclaredMethods()) {
            if (Modifier.isPublic(method.getModifiers())) due.add(method.getName());
        }
        check(called.equals(due), "the examples have the calls " + called + ", due are " + due);
    }

    private static void checkTestNames(String readme) throws IOException {
        Set<String> named = new TreeSet<>();
        Matcher matcher = TEST_NAME.matcher(readme);
        while (matcher.find()) named.add(matcher.group(1));
        Set<String> due = new TreeSet<>();
        try (Stream<Path> files = Files.list(Path.of("src/test/java"))) {
            files.map(file -> file.getFileName().toString()).filter(name -> name.endsWith("Test.java"))
                .forEach(name -> due.add(name.substring(0, name.length() - 5)));
        }
        check(named.equals(due), "README.md names the tests " + named + ", there are " + due);
    }

    /** The first command runs the tests; another one runs a test that the first one has compiled. */
    private static void checkCommands(String readme) {
        Set<String> found = new TreeSet<>();
        Matcher matcher = COMMAND.matcher(readme.replaceAll("(?s)```.*?```", ""));
        while (matcher.find()) found.add(matcher.group(1));
        check(found.equals(Set.of(".ci/run", "java -cp build/own/RandomRunsTest RandomRunsTest 20")),
            "the commands are " + found);
        check(Files.isExecutable(Path.of(".ci/run")), ".ci/run can't be executed");
        check(Files.exists(Path.of("src/test/java/RandomRunsTest.java")), "there is no RandomRunsTest");
        String ownClasses = ReadmeTest.class.getProtectionDomain().getCodeSource().getLocation().getPath();
        check(ownClasses.endsWith("/build/own/ReadmeTest/"), "the tests' classes are in " + ownClasses);
    }

    public static void main(String[] args) throws IOException {
        String readme = Files.readString(Path.of("README.md"));
        Matcher example = EXAMPLE.matcher(readme);
        while (example.find()) runExample(example.group(1));
        checkThatAllCallsAreShown();
        checkTestNames(readme);
        checkCommands(readme);
        if (wrong != 0) System.exit(1);
        Script.finish("the " + examples + " examples of README.md");
    }
}
