import java.io.IOException;
import java.lang.reflect.Method;
import java.lang.reflect.Modifier;
import java.nio.file.Files;
import java.nio.file.Path;
import java.util.ArrayList;
import java.util.HashMap;
import java.util.HashSet;
import java.util.List;
import java.util.Map;
import java.util.Set;
import java.util.regex.Matcher;
import java.util.regex.Pattern;

/** The calls that README.md shows answer what README.md says of them. It is read anew, so that no copy can differ. */
public final class ReadmeTest extends Tests {
    private static final Pattern EXAMPLE = Pattern.compile("(?ms)^```java\n(.*?)^```$");
    private static final Pattern OBJECT = Pattern.compile(
            "ContinuousRows x = new ContinuousRows\\((-?\\d+)\\);\\s+// the numbers 0 \\.\\. (\\d+)(?::.*)?");
    private static final Pattern CALL =
            Pattern.compile("(?:int (\\w+) = )?x\\.(\\w+)\\(([^()]*)\\);\\s+// (-?\\d+|BAD|NO|FULL)(?::.*)?");
    private static final Map<String, Integer> CONSTANTS = Map.of("BAD", BAD, "NO", NO, "FULL", FULL);

    public static void main(String[] args) {
        run(ReadmeTest.class);
    }

    static void readmeCallsAnswerWhatItSays() throws Exception {
        for (List<String> example : examples()) {
            runExample(example);
        }
    }

    static void readmeShowsEachCallOfTheFace() throws IOException {
        Set<String> shown = new HashSet<>();
        for (List<String> example : examples()) {
            for (String line : example) {
                Matcher call = CALL.matcher(line);
                if (call.matches()) {
                    shown.add(call.group(2));
                }
            }
        }
        for (Method method : ContinuousRows.class.getDeclaredMethods()) {
            if (Modifier.isPublic(method.getModifiers())) {
                holds("an example of " + method.getName(), shown.contains(method.getName()));
            }
        }
    }

    static void readmeShowsEachAnswerThatIsNoNumber() throws IOException {
        String readme = Files.readString(Path.of("README.md"));
        for (String name : CONSTANTS.keySet()) {
            holds(name + " with its number", readme.contains("`" + name + "` (" + CONSTANTS.get(name) + ")"));
            holds("an example of " + name, readme.contains("// " + name));
        }
    }

    private static List<List<String>> examples() throws IOException {
        List<List<String>> examples = new ArrayList<>();
        Matcher block = EXAMPLE.matcher(Files.readString(Path.of("README.md")));
        while (block.find()) {
            examples.add(block.group(1).lines().filter(line -> !line.isBlank()).toList());
        }
        holds("README.md has examples", !examples.isEmpty());
        return examples;
    }

    /** The first line makes the object; each other line must be a call with its answer, so that none is left out. */
    private static void runExample(List<String> lines) throws Exception {
        Matcher object = OBJECT.matcher(lines.isEmpty() ? "" : lines.get(0));
        holds("an example begins with an object: " + lines, object.matches());
        if (!object.matches()) {
            return;
        }
        int argument = Integer.parseInt(object.group(1));
        due(lines.get(0), lastNumber(new ContinuousRows(argument)), Integer.parseInt(object.group(2)));
        ContinuousRows x = new ContinuousRows(argument);
        Map<String, Integer> names = new HashMap<>();
        for (String line : lines.subList(1, lines.size())) {
            Matcher call = CALL.matcher(line);
            holds("a call and its answer: " + line, call.matches());
            if (call.matches()) {
                int answer = answer(x, call.group(2), call.group(3), names);
                due(line, answer, CONSTANTS.containsKey(call.group(4))
                        ? CONSTANTS.get(call.group(4)) : Integer.parseInt(call.group(4)));
                if (call.group(1) != null) {
                    names.put(call.group(1), answer);
                }
            }
        }
    }

    private static int lastNumber(ContinuousRows x) {
        stepTo(x, 100);
        return x.latest();
    }

    private static int answer(ContinuousRows x, String name, String told, Map<String, Integer> names) throws Exception {
        String[] words = told.isBlank() ? new String[0] : told.split(", ");
        Object[] arguments = new Object[words.length];
        Class<?>[] types = new Class<?>[words.length];
        for (int i = 0; i < words.length; i++) {
            boolean isBoolean = words[i].equals("true") || words[i].equals("false");
            types[i] = isBoolean ? boolean.class : int.class;
            if (isBoolean) {
                arguments[i] = words[i].equals("true");
            } else {
                arguments[i] = names.containsKey(words[i]) ? names.get(words[i]) : Integer.valueOf(words[i]);
            }
        }
        return (int) ContinuousRows.class.getMethod(name, types).invoke(x, arguments);
    }
}
