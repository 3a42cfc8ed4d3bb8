import java.io.IOException;
import java.lang.reflect.Field;
import java.lang.reflect.Method;
import java.lang.reflect.Modifier;
import java.nio.file.Files;
import java.nio.file.Path;
import java.util.Arrays;
import java.util.List;
import java.util.Map;
import java.util.Set;
import java.util.TreeMap;
import java.util.TreeSet;
import java.util.regex.Matcher;
import java.util.regex.Pattern;

/** The rules of LANGUAGE.md that a program can look at: members, types, words, calls. Run it in the project's folder. */
public final class LanguageTest {
    static final Set<String> FACE = Set.of("token", "define", "place", "drop", "run", "result", "kind", "steps", "says", "said");
    private static final Set<String> CONSTANTS = Set.of("OK", "SHAPE", "UNBOUND", "THROWN", "LONG", "BAD");
    private static final List<Class<?>> TYPES = Arrays.asList(int.class, long.class, boolean.class, int[].class, boolean[].class, void.class);
    private static final String[] FORBIDDEN = {"import", "package", "throw", "try", "catch", "finally", "synchronized", "assert",
        "instanceof", "null", "float", "double", "String", "System", "Math", "Integer", "Arrays", "Object", "interface", "enum", "record",
        "protected", "goto", "->", "::", "@", "\""};

    public static void main(String[] args) throws IOException {
        String source = Files.readString(Path.of("src/main/java/OutcomeKit.java"));
        String plain = source.replaceAll("(?s)/\\*.*?\\*/", "").replaceAll("//[^\n]*", "");
        members();
        fields();
        words(plain);
        methods(plain);
        Checks.end("LanguageTest");
    }

    private static void members() {
        Class<OutcomeKit> type = OutcomeKit.class;
        Checks.due("public and final", Modifier.isPublic(type.getModifiers()) && Modifier.isFinal(type.getModifiers()), true);
        Checks.due("nested classes", type.getDeclaredClasses().length, 0);
        Checks.due("constructors", type.getDeclaredConstructors().length, 1);
        Set<String> names = new TreeSet<>();
        for (Method method : type.getDeclaredMethods()) {
            boolean open = Modifier.isPublic(method.getModifiers());
            Checks.due(method + ": public or private", open || Modifier.isPrivate(method.getModifiers()), true);
            Checks.due(method + ": of the face", FACE.contains(method.getName()), open);
            Checks.due(method + ": parameters", method.getParameterCount() <= 7, true);
            Checks.due(method + ": type", TYPES.contains(method.getReturnType()) && !method.getReturnType().isArray(), true);
            Checks.due(method + ": the only one of its name", names.add(method.getName()), true);
        }
        Checks.due("all of the face", names.containsAll(FACE), true);
    }

    private static void fields() {
        int count = 0;
        for (Field field : OutcomeKit.class.getDeclaredFields()) {
            int how = field.getModifiers();
            boolean constant = Modifier.isStatic(how) && Modifier.isFinal(how);
            Checks.due(field + ": of the face", CONSTANTS.contains(field.getName()), Modifier.isPublic(how));
            Checks.due(field + ": public or private", Modifier.isPublic(how) || Modifier.isPrivate(how), true);
            Checks.due(field + ": type", TYPES.contains(field.getType()), true);
            if (Modifier.isStatic(how)) {
                Checks.due(field + ": a constant", constant && field.getType() == int.class, true);
            } else {
                count++;
            }
        }
        Checks.due("at most 40 fields", count <= 40, true);
    }

    private static void words(String plain) {
        for (String word : FORBIDDEN) {
            String edge = Character.isLetter(word.charAt(0)) ? "\\b" : "";
            boolean found = Pattern.compile(edge + Pattern.quote(word) + edge).matcher(plain).find();
            Checks.due("the word " + word, found, false);
        }
        Matcher made = Pattern.compile("\\bnew\\b[^;]*;").matcher(plain);
        while (made.find()) {
            int start = plain.lastIndexOf('\n', made.start()) + 1;
            Checks.due("made in a field: " + made.group(), plain.substring(start).startsWith("    private final "), true);
        }
    }

    /** Every method by its name, with its text. */
    private static Map<String, String> bodies(String plain) {
        Map<String, String> bodies = new TreeMap<>();
        Matcher head = Pattern.compile("(?m)^    (?:public|private) \\w+ (\\w+)\\([^)]*\\) \\{$").matcher(plain);
        while (head.find()) {
            bodies.put(head.group(1), plain.substring(head.end(), plain.indexOf("\n    }\n", head.end())));
        }
        return bodies;
    }

    private static void methods(String plain) {
        Map<String, String> bodies = bodies(plain);
        Checks.due("all methods are found", bodies.size(), OutcomeKit.class.getDeclaredMethods().length);
        for (Map.Entry<String, String> entry : bodies.entrySet()) {
            Checks.due(entry.getKey() + ": at most 60 lines", entry.getValue().split("\n").length <= 60, true);
            Checks.due(entry.getKey() + ": no call in a call's arguments", callInCall(entry.getValue()), false);
            Checks.due(entry.getKey() + ": at most six deep", depth(entry.getKey(), bodies, 0) <= 6, true);
        }
    }

    private static boolean callInCall(String body) {
        int open = 0;
        boolean[] isCall = new boolean[1000];
        for (int i = 0; i < body.length(); i++) {
            if (body.charAt(i) == '(') {
                isCall[open] = callAt(body, i);
                for (int k = 0; k < open; k++) {
                    if (isCall[open] && isCall[k]) {
                        return true;
                    }
                }
                open++;
            } else if (body.charAt(i) == ')') {
                open--;
            }
        }
        return false;
    }

    /** A name stands right before the parenthesis; the words if, for and switch have a space there. */
    private static boolean callAt(String body, int parenthesis) {
        return parenthesis > 0 && Character.isLetter(body.charAt(parenthesis - 1));
    }

    /** How many methods deep the calls of this one go, itself included; 100 for a recursion. */
    private static int depth(String name, Map<String, String> bodies, int above) {
        if (above > 8) {
            return 100;
        }
        int deepest = 0;
        Matcher call = Pattern.compile("\\b([a-zA-Z]+)\\(").matcher(bodies.get(name));
        while (call.find()) {
            Checks.due(name + " calls a method of the class: " + call.group(1), bodies.containsKey(call.group(1)), true);
            deepest = Math.max(deepest, depth(call.group(1), bodies, above + 1));
        }
        return deepest + 1;
    }
}
