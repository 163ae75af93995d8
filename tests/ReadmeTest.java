import java.lang.reflect.Method;
import java.nio.charset.StandardCharsets;
import java.nio.file.Files;
import java.nio.file.Path;
import java.util.regex.Matcher;
import java.util.regex.Pattern;

/** The example in README.md answers as README.md says, and each test is named there. */
public final class ReadmeTest {
    private static final Pattern CALL = Pattern.compile("x\\.(\\w+)\\(([^)]*)\\); +// (-?\\w+): .+");

    public static void main(String[] args) throws Exception {
        String readme = new String(Files.readAllBytes(Path.of("README.md")), StandardCharsets.UTF_8);
        example(readme);
        numbers(readme);
        tests(readme);
        Due.end();
    }

    private static void example(String readme) throws Exception {
        Matcher block = Pattern.compile("```java\n(.*?)```", Pattern.DOTALL).matcher(readme);
        Due.is("an example is there", block.find() ? 1 : 0, 1);
        SeenWorlds x = new SeenWorlds();
        int calls = 0;
        for (String line : block.group(1).split("\n")) {
            if (line.startsWith("//") || line.startsWith("SeenWorlds x = new SeenWorlds();")) continue;
            Matcher call = CALL.matcher(line);
            Due.is("a call and its answer: " + line, call.matches() ? 1 : 0, 1);
            if (!call.matches()) continue;
            calls++;
            Due.is("README: " + line, answer(x, call.group(1), call.group(2)), number(call.group(3)));
        }
        Due.is("calls in the example", calls > 20 ? 1 : 0, 1);
    }

    private static long answer(SeenWorlds x, String name, String listed) throws Exception {
        for (Method m : SeenWorlds.class.getMethods()) {
            if (m.getDeclaringClass() != SeenWorlds.class || !m.getName().equals(name)) continue;
            Object[] given = new Object[m.getParameterCount()];
            String[] words = listed.isEmpty() ? new String[0] : listed.split(", ");
            Due.is("how many numbers " + name + " takes", words.length, given.length);
            for (int k = 0; k < given.length && k < words.length; k++) {
                boolean isLong = m.getParameterTypes()[k] == long.class;
                given[k] = isLong ? (Object) number(words[k]) : (Object) (int) number(words[k]);
            }
            return ((Number) m.invoke(x, given)).longValue();
        }
        return Long.MIN_VALUE;
    }

    private static long number(String word) {
        String digits = word.endsWith("L") ? word.substring(0, word.length() - 1) : word;
        return digits.startsWith("0b") ? Long.parseLong(digits.substring(2), 2) : Long.decode(digits);
    }

    /** What the text says of the constants is so. */
    private static void numbers(String readme) {
        Due.is("BAD", readme.contains("`BAD` (" + SeenWorlds.BAD + ":") ? 1 : 0, 1);
        Due.is("STATE", readme.contains("`STATE` (" + SeenWorlds.STATE + ":") ? 1 : 0, 1);
        Due.is("FULL", readme.contains("`FULL` (" + SeenWorlds.FULL + ":") ? 1 : 0, 1);
        Due.is("NONE", readme.contains("`NONE` (" + SeenWorlds.NONE + ")") ? 1 : 0, 1);
    }

    private static void tests(String readme) throws Exception {
        Due.is("how the tests are run", readme.contains("    bash .ci/run\n") ? 1 : 0, 1);
        try (var files = Files.list(Path.of("tests"))) {
            for (Path file : (Iterable<Path>) files::iterator) {
                String name = file.getFileName().toString();
                if (!name.endsWith("Test.java") || name.startsWith("Edges")) continue;
                Due.is(name + " is told of", readme.contains("`" + name.replace(".java", "") + "`") ? 1 : 0, 1);
            }
        }
    }
}
