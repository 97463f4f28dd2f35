import java.io.IOException;
import java.lang.reflect.Method;
import java.nio.file.Files;
import java.nio.file.Path;
import java.util.HashMap;
import java.util.HashSet;
import java.util.Map;
import java.util.Set;
import java.util.regex.Matcher;
import java.util.regex.Pattern;

/** The example of README.md, call by call, each with the answer that stands behind it. */
public final class ReadmeTest {
    private static final Pattern CALL = Pattern.compile("x\\.(\\w+)\\(([-\\d, ]*)\\); +// (-?\\d+)(:.*)?");

    public static void main(String[] args) throws IOException, ReflectiveOperationException {
        String readme = Files.readString(Path.of("README.md"));
        Map<String, Method> face = face();
        BassRealiser x = new BassRealiser();
        int calls = 0;
        for (String line : block(readme, "```java\n")) {
            if (!line.startsWith("x.")) {
                continue;
            }
            calls++;
            Matcher call = CALL.matcher(line);
            if (!call.matches()) {
                Checks.must(false, "no answer can be read in: " + line);
                continue;
            }
            Object[] with = numbers(call.group(2));
            Checks.sentence("README.md");
            Checks.due(line, (Integer) face.get(call.group(1)).invoke(x, with), Integer.parseInt(call.group(3)));
        }
        Checks.must(calls > 0, "README.md shows no call");
        Checks.sentence("README.md says how to use the class and how to run its tests");
        for (String name : face.keySet()) {
            Checks.must(readme.contains("`" + name + "`"), "README.md does not tell of " + name);
        }
        for (String name : tests()) {
            Checks.must(readme.contains("`" + name + "`"), "README.md does not tell of " + name);
        }
        Checks.must(readme.contains(".ci/run"), "README.md does not tell how tests are run");
        Checks.end("readme");
    }

    private static String[] block(String text, String opening) {
        int from = text.indexOf(opening);
        if (from < 0) {
            return new String[0];
        }
        from += opening.length();
        return text.substring(from, text.indexOf("```", from)).split("\n");
    }

    private static Map<String, Method> face() {
        Map<String, Method> face = new HashMap<>();
        for (Method m : BassRealiser.class.getMethods()) {
            if (m.getDeclaringClass() == BassRealiser.class) {
                face.put(m.getName(), m);
            }
        }
        return face;
    }

    private static Object[] numbers(String list) {
        if (list.isBlank()) {
            return new Object[0];
        }
        String[] words = list.split(", *");
        Object[] numbers = new Object[words.length];
        for (int k = 0; k < words.length; k++) {
            numbers[k] = Integer.valueOf(words[k].trim());
        }
        return numbers;
    }

    private static Set<String> tests() throws IOException {
        Set<String> names = new HashSet<>();
        try (var files = Files.list(Path.of("src/test/java"))) {
            files.forEach(file -> names.add(file.getFileName().toString().replace(".java", "")));
        }
        return names;
    }
}
