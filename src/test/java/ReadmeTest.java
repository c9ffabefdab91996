import java.io.IOException;
import java.lang.reflect.Method;
import java.lang.reflect.Modifier;
import java.nio.charset.StandardCharsets;
import java.nio.file.Files;
import java.nio.file.Path;
import java.nio.file.Paths;
import java.util.Set;
import java.util.TreeSet;
import java.util.regex.Matcher;
import java.util.regex.Pattern;
import java.util.stream.Stream;

/** README.md's example answers as it says there and uses every call; its list names every test. */
public final class ReadmeTest {
    private static final Pattern MAKES = Pattern.compile("ElectingWind x = new ElectingWind\\(\\);");
    private static final Pattern TELLS = Pattern.compile("for \\(char b : \"(.*)\"\\.toCharArray\\(\\)\\) x\\.type\\((\\d), b\\); *//.*");
    private static final Pattern ASKS = Pattern.compile("x\\.(\\w+)\\(([^)]*)\\); *// (-?\\d+)\\b.*");

    private static final Checks c = new Checks("ReadmeTest");
    private static final Set<String> used = new TreeSet<>();
    private static ElectingWind x = new ElectingWind();

    private static void line(String line) throws ReflectiveOperationException {
        if (line.isEmpty() || line.startsWith("//")) return;
        Matcher tells = TELLS.matcher(line), asks = ASKS.matcher(line);
        if (MAKES.matcher(line).matches()) {
            x = new ElectingWind();
        } else if (tells.matches()) {
            Checks.tell(x, Integer.parseInt(tells.group(2)), tells.group(1));
        } else if (asks.matches()) {
            used.add(asks.group(1));
            c.due(line, answer(asks.group(1), asks.group(2)), Long.parseLong(asks.group(3)));
        } else {
            c.due("\"" + line + "\", which the test cannot read,", 1, 0);
        }
    }

    private static long answer(String call, String arguments) throws ReflectiveOperationException {
        String[] words = arguments.isEmpty() ? new String[0] : arguments.split(", ");
        Class<?>[] types = new Class<?>[words.length];
        Object[] values = new Object[words.length];
        for (int i = 0; i < words.length; i++) {
            types[i] = int.class;
            values[i] = words[i].startsWith("'") ? words[i].charAt(1) : Integer.parseInt(words[i]);
        }
        return ((Number) ElectingWind.class.getMethod(call, types).invoke(x, values)).longValue();
    }

    private static Set<String> calls() {
        Set<String> calls = new TreeSet<>();
        for (Method m : ElectingWind.class.getDeclaredMethods()) if (Modifier.isPublic(m.getModifiers())) calls.add(m.getName());
        return calls;
    }

    public static void main(String[] args) throws IOException, ReflectiveOperationException {
        String readme = new String(Files.readAllBytes(Paths.get("README.md")), StandardCharsets.UTF_8);
        String example = readme.substring(readme.indexOf("```java\n") + 8, readme.lastIndexOf("```"));
        for (String line : example.split("\n")) line(line);
        for (String call : calls()) c.due("uses of " + call + "() in the example", used.contains(call) ? 1 : 0, 1);
        try (Stream<Path> files = Files.list(Paths.get("src/test/java"))) {
            files.map(f -> f.getFileName().toString()).filter(f -> f.endsWith("Test.java")).sorted().forEach(f ->
                c.due("lines that name " + f, readme.contains("`" + f.replace(".java", "") + "`") ? 1 : 0, 1));
        }
        c.due("lines that tell how to run the tests", readme.contains("    bash .ci/run\n") ? 1 : 0, 1);
        c.end();
    }
}
