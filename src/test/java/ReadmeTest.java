import java.io.IOException;
import java.lang.reflect.Method;
import java.nio.file.Files;
import java.nio.file.Path;
import java.util.Arrays;
import java.util.Set;
import java.util.TreeSet;
import java.util.regex.Matcher;
import java.util.regex.Pattern;

/** The example in README.md: each call answers the number behind it, and no method is left out. */
public final class ReadmeTest {
    private static final Expect EXPECT = new Expect();
    private static final Pattern CALL = Pattern.compile("search\\.(\\w+)\\(([-\\d, ]*)\\); +// (-?\\d+)\\b.*");
    private static final String MAKE = "WandSearch search = new WandSearch();";

    public static void main(String[] args) throws IOException, ReflectiveOperationException {
        EXPECT.sentence("README.md", "Use");
        WandSearch search = new WandSearch();
        Set<String> shown = new TreeSet<>();
        for (String line : example(Files.readString(Path.of("README.md"))).split("\n")) {
            Matcher call = CALL.matcher(line);
            if (call.matches()) {
                shown.add(call.group(1));
                EXPECT.due(line, ask(search, call.group(1), call.group(2)), Integer.parseInt(call.group(3)));
            } else {
                EXPECT.holds("a line has a call and its answer: " + line, line.isBlank() || line.equals(MAKE));
            }
        }
        everyMethodIsIn(shown);
        EXPECT.finish();
    }

    private static String example(String readme) {
        String opening = "```java\n";
        int start = readme.indexOf(opening) + opening.length();
        return readme.substring(start, readme.indexOf("```", start));
    }

    private static int ask(WandSearch search, String name, String list) throws ReflectiveOperationException {
        String[] numbers = list.isBlank() ? new String[0] : list.split(", *");
        Class<?>[] types = new Class<?>[numbers.length];
        Arrays.fill(types, int.class);
        Object[] values = Arrays.stream(numbers).map(Integer::valueOf).toArray();
        return (int) WandSearch.class.getMethod(name, types).invoke(search, values);
    }

    private static void everyMethodIsIn(Set<String> shown) {
        for (Method method : WandSearch.class.getMethods()) {
            if (method.getDeclaringClass() == WandSearch.class) {
                EXPECT.holds("the example has " + method.getName(), shown.contains(method.getName()));
            }
        }
    }
}
