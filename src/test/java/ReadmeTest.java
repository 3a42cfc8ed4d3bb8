import java.io.IOException;
import java.nio.file.Files;
import java.nio.file.Path;
import java.util.Arrays;
import java.util.Set;
import java.util.TreeSet;
import java.util.regex.Matcher;
import java.util.regex.Pattern;
import java.util.stream.Stream;

/** README.md: the calls under "Use" answer as their comments say, and its table has every test. Run it in the project's folder. */
public final class ReadmeTest {
    private static final Pattern CALL = Pattern.compile("kit\\.(\\w+)\\(([^)]*)\\);\\s*// *([\\w-]+).*");

    public static void main(String[] args) throws IOException {
        String readme = Files.readString(Path.of("README.md"));
        example(readme);
        table(readme);
        Checks.end("ReadmeTest");
    }

    private static void example(String readme) {
        Checks.about("README.md", "Use");
        int begin = readme.indexOf("```java\n");
        String[] lines = readme.substring(begin, readme.indexOf("```\n", begin + 3)).split("\n");
        OutcomeKit kit = new OutcomeKit();
        Set<String> called = new TreeSet<>();
        for (String line : lines) {
            Matcher call = CALL.matcher(line);
            boolean isCall = call.matches();
            Checks.due("a call with its answer: " + line, isCall, line.startsWith("kit."));
            if (isCall) {
                Checks.due(line, answer(kit, call.group(1), numbers(call.group(2))), stated(call.group(1), call.group(3)));
                called.add(call.group(1));
            }
        }
        for (String method : LanguageTest.FACE) {
            Checks.due("calls " + method, called.contains(method), true);
        }
    }

    private static int[] numbers(String arguments) {
        return Arrays.stream(arguments.split(", *")).filter(text -> !text.isEmpty()).mapToInt(Integer::parseInt).toArray();
    }

    private static int answer(OutcomeKit kit, String method, int[] with) {
        switch (method) {
            case "token": return kit.token(with[0], with[1]) ? 1 : 0;
            case "define": return kit.define(with[0]);
            case "place": return kit.place();
            case "drop": return kit.drop(with[0]) ? 1 : 0;
            case "run": return kit.run(with[0], with[1]);
            case "result": return kit.result();
            case "kind": return kit.kind();
            case "steps": return kit.steps();
            case "says": return kit.says();
            case "said": return kit.said(with[0]);
            default: throw new IllegalArgumentException(method);
        }
    }

    /** The answer that the comment's first word tells; a token's comment tells what it is, and it must be taken. */
    private static int stated(String method, String word) {
        if (method.equals("token")) {
            return 1;
        }
        switch (word) {
            case "OK": return OutcomeKit.OK;
            case "SHAPE": return OutcomeKit.SHAPE;
            case "UNBOUND": return OutcomeKit.UNBOUND;
            case "THROWN": return OutcomeKit.THROWN;
            case "true": return 1;
            case "false": return 0;
            default: return Integer.parseInt(word);
        }
    }

    private static void table(String readme) throws IOException {
        Checks.about("README.md", "Tests");
        try (Stream<Path> files = Files.list(Path.of("src/test/java"))) {
            files.map(file -> file.getFileName().toString().replace(".java", ""))
                .filter(name -> name.endsWith("Test"))
                .forEach(name -> Checks.due("has a row: " + name, readme.contains("\n| " + name + " | "), true));
        }
    }
}
