import java.io.IOException;
import java.lang.reflect.Method;
import java.nio.file.Files;
import java.nio.file.Path;
import java.util.Arrays;
import java.util.List;
import java.util.Set;
import java.util.TreeSet;
import java.util.regex.Matcher;
import java.util.regex.Pattern;

// Makes the calls of the README's example and looks that each answers what the README says.
public final class ReadmeTest {
    private static final String FIRST_LINE = "TwinGraphs x = new TwinGraphs(4);";
    private static final Pattern CALL = Pattern.compile("x\\.(\\w+)\\(([-0-9, ]*)\\); *// (-?\\d+): .+");

    public static void main(String[] args) throws IOException {
        List<String> example = exampleIn(Files.readString(Path.of("README.md")));
        Checks.sentence("README.md says how to use the class", () -> follow(example));
        Checks.end();
    }

    private static List<String> exampleIn(String readme) {
        String opened = readme.substring(readme.indexOf("```java\n") + 8);
        return opened.substring(0, opened.indexOf("```")).lines().toList();
    }

    private static void follow(List<String> example) {
        Checks.holds("the example starts with " + FIRST_LINE, example.get(0).startsWith(FIRST_LINE));
        TwinGraphs x = new TwinGraphs(4);
        Set<String> used = new TreeSet<>();
        for (String line : example.subList(1, example.size())) {
            Matcher call = CALL.matcher(line);
            Checks.holds("a call and its answer: " + line, call.matches());
            Checks.due(line, answer(x, call.group(1), call.group(2)), Long.parseLong(call.group(3)));
            used.add(call.group(1));
        }
        Checks.same("the methods used", used.toString(), publicMethods().toString());
    }

    private static Set<String> publicMethods() {
        Set<String> names = new TreeSet<>();
        for (Method method : TwinGraphs.class.getMethods()) {
            if (method.getDeclaringClass() == TwinGraphs.class) {
                names.add(method.getName());
            }
        }
        return names;
    }

    private static long answer(TwinGraphs x, String name, String arguments) {
        Object[] numbers = Arrays.stream(arguments.split(", *")).filter(text -> !text.isEmpty())
            .map(Integer::valueOf).toArray();
        Class<?>[] types = new Class<?>[numbers.length];
        Arrays.fill(types, int.class);
        try {
            return ((Number) TwinGraphs.class.getMethod(name, types).invoke(x, numbers)).longValue();
        } catch (ReflectiveOperationException wrongCall) {
            throw new IllegalStateException(name + "(" + arguments + ")", wrongCall);
        }
    }
}
