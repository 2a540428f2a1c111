import java.lang.reflect.Method;
import java.lang.reflect.Modifier;
import java.nio.file.Files;
import java.nio.file.Path;
import java.util.ArrayList;
import java.util.Arrays;
import java.util.List;
import java.util.Set;
import java.util.TreeSet;
import java.util.regex.Matcher;
import java.util.regex.Pattern;

/** README.md's examples are made line by line: each answers what stands behind it, and no call lacks. */
public final class ReadmeTest {
    private static final Due DUE = new Due();
    private static final Pattern EXAMPLES = Pattern.compile("```java\n(.*?)```", Pattern.DOTALL);
    private static final String MAKING = "EachSecondStruck x = new EachSecondStruck();";
    private static final Pattern LETTERS =
        Pattern.compile("for \\(char letter : \"([^\"]*)\"\\.toCharArray\\(\\)\\) x\\.feed\\(letter\\);");
    private static final Pattern CALL =
        Pattern.compile("x\\.(\\w+)\\(([-\\d, ]*)\\); +// (-?\\d+): .+");

    private static final Set<String> SHOWN = new TreeSet<>();

    private ReadmeTest() {
    }

    public static void main(String[] args) throws Exception {
        Matcher examples = EXAMPLES.matcher(Files.readString(Path.of("README.md")));
        while (examples.find()) {
            example(examples.group(1).split("\n"));
        }
        for (Method method : EachSecondStruck.class.getDeclaredMethods()) {
            if (Modifier.isPublic(method.getModifiers())) {
                DUE.is("README.md shows " + method.getName(), SHOWN.contains(method.getName()) ? 1 : 0, 1);
            }
        }
        DUE.end();
    }

    private static void example(String[] lines) throws Exception {
        DUE.is("an example begins with a new object", lines[0].equals(MAKING) ? 1 : 0, 1);
        EachSecondStruck x = new EachSecondStruck();
        for (String line : Arrays.asList(lines).subList(1, lines.length)) {
            Matcher letters = LETTERS.matcher(line);
            Matcher call = CALL.matcher(line);
            if (letters.matches()) {
                SHOWN.add("feed");
                Due.feed(x, letters.group(1));
            } else if (call.matches()) {
                SHOWN.add(call.group(1));
                DUE.is(line, answer(x, call.group(1), call.group(2)), Long.parseLong(call.group(3)));
            } else {
                DUE.is("README.md's line can't be run: " + line, 0, 1);
            }
        }
    }

    private static long answer(EachSecondStruck x, String name, String numbers) throws Exception {
        List<Object> values = new ArrayList<>();
        List<Class<?>> types = new ArrayList<>();
        for (String number : numbers.isEmpty() ? new String[0] : numbers.split(", ")) {
            values.add(Integer.parseInt(number));
            types.add(int.class);
        }
        Method method = EachSecondStruck.class.getMethod(name, types.toArray(new Class<?>[0]));
        return ((Number) method.invoke(x, values.toArray())).longValue();
    }
}
