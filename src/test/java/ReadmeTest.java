import java.io.IOException;
import java.lang.reflect.Method;
import java.lang.reflect.Modifier;
import java.nio.file.Files;
import java.nio.file.Path;
import java.util.Collections;
import java.util.List;
import java.util.regex.Matcher;
import java.util.regex.Pattern;

/** README tells every call of the face, and its example answers what the comments beside it say. */
public final class ReadmeTest {
    private static final Pattern CALL = Pattern.compile(
            "map\\.(\\w+)\\((.*?)\\);(?: *// (-?\\d+|true|false)\\b)?");

    private ReadmeTest() {
    }

    /** README is looked for where .ci/run starts the tests, in the project's directory. */
    public static void main(String[] args) throws IOException, ReflectiveOperationException {
        List<String> lines = Files.readAllLines(Path.of("README.md"));
        for (Method method : WitnessedMap.class.getDeclaredMethods()) {
            if (Modifier.isPublic(method.getModifiers())) {
                Expect.same("told in the table: " + method, isTold(lines, method), true);
            }
        }
        example(lines.subList(lines.indexOf("```java") + 1, lines.lastIndexOf("```")));
        Expect.finish();
    }

    private static boolean isTold(List<String> lines, Method method) {
        String arguments = String.join(", ", Collections.nCopies(method.getParameterCount(), "\\w+"));
        Pattern told = Pattern.compile("^\\| .*`" + method.getName() + "\\(" + arguments + "\\)`.* \\|");
        return lines.stream().anyMatch(line -> told.matcher(line).find());
    }

    private static void example(List<String> lines) throws ReflectiveOperationException {
        Expect.same("the object", lines.get(0).startsWith("WitnessedMap map = new WitnessedMap(3);"), true);
        WitnessedMap map = new WitnessedMap(3);
        String digest = "";
        int answersTold = 0;
        for (String line : lines.subList(1, lines.size())) {
            Matcher call = CALL.matcher(line);
            Expect.same("a call: " + line, call.find() || line.isEmpty(), true);
            if (line.isEmpty()) {
                continue;
            }
            String answer = answerOf(map, call.group(1), call.group(2).replace("digest", digest));
            if (line.startsWith("int digest = ")) {
                digest = answer;
            }
            if (call.group(3) != null) {
                Expect.same(line, answer, call.group(3));
                answersTold++;
            }
        }
        Expect.same("answers are told", answersTold >= 10, true);
    }

    private static String answerOf(WitnessedMap map, String name, String arguments)
            throws ReflectiveOperationException {
        String[] words = arguments.isEmpty() ? new String[0] : arguments.split(", ");
        Class<?>[] types = new Class<?>[words.length];
        Object[] values = new Object[words.length];
        for (int i = 0; i < words.length; i++) {
            boolean isNumber = words[i].matches("-?\\d+");
            types[i] = isNumber ? int.class : boolean.class;
            values[i] = isNumber ? (Object) Integer.valueOf(words[i]) : (Object) Boolean.valueOf(words[i]);
        }
        return WitnessedMap.class.getMethod(name, types).invoke(map, values).toString();
    }
}
