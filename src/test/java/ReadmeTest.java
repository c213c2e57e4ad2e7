import java.io.IOException;
import java.lang.reflect.Method;
import java.nio.file.Files;
import java.nio.file.Path;
import java.util.ArrayList;
import java.util.List;
import java.util.regex.Matcher;
import java.util.regex.Pattern;

/** What README.md says of the class holds; it is started in the project's directory. */
public final class ReadmeTest {
    private static final Path README = Path.of("README.md");
    private static final Pattern EXAMPLE = Pattern.compile("(?s)```java\n(.*?)```");
    private static final Pattern CALL = Pattern.compile("(?m)^x\\.(\\w+)\\(([^()]*)\\); +// (-?\\d+)(?::.*)?$");
    private static final Pattern LISTED = Pattern.compile("(?m)^\\| `(\\w+)\\(([^()]*)\\)` \\|");
    private static int wrong = 0;

    private static void tell(String fault) {
        wrong++;
        System.out.println(fault);
    }

    private static List<Method> face() {
        List<Method> all = new ArrayList<>();
        for (Method m : WalkPasses.class.getMethods()) {
            if (m.getDeclaringClass() == WalkPasses.class) all.add(m);
        }
        return all;
    }

    private static int arguments(String list) {
        return list.isEmpty() ? 0 : list.split(",").length;
    }

    private static int answer(WalkPasses x, String name, String list) throws ReflectiveOperationException {
        Object[] values = new Object[arguments(list)];
        for (int i = 0; i < values.length; i++) values[i] = Integer.parseInt(list.split(",")[i].trim());
        for (Method m : face()) {
            if (m.getName().equals(name) && m.getParameterCount() == values.length) return (Integer) m.invoke(x, values);
        }
        throw new NoSuchMethodException(name);
    }

    private static void example(String text) throws ReflectiveOperationException {
        Matcher block = EXAMPLE.matcher(text);
        if (!block.find()) {
            tell("there is no example");
            return;
        }
        long rows = block.group(1).lines().filter(row -> row.startsWith("x.")).count();
        WalkPasses x = new WalkPasses();
        Matcher call = CALL.matcher(block.group(1));
        int asked = 0;
        while (call.find()) {
            asked++;
            int got = answer(x, call.group(1), call.group(2));
            if (got != Integer.parseInt(call.group(3))) tell("the example says '" + call.group() + "', the answer is " + got);
        }
        if (asked == 0 || asked != rows) tell(asked + " of " + rows + " rows of the example can be read");
    }

    private static void calls(String text) {
        List<String> listed = new ArrayList<>();
        Matcher row = LISTED.matcher(text);
        while (row.find()) listed.add(row.group(1) + "/" + arguments(row.group(2)));
        List<String> due = new ArrayList<>();
        for (Method m : face()) due.add(m.getName() + "/" + m.getParameterCount());
        listed.sort(null);
        due.sort(null);
        if (!listed.equals(due)) tell("listed are " + listed + ", due are " + due);
    }

    public static void main(String[] args) throws IOException, ReflectiveOperationException {
        String text = Files.readString(README);
        example(text);
        calls(text);
        System.out.println(wrong == 0 ? "README.md holds" : wrong + " things in README.md do not hold");
        if (wrong != 0) System.exit(1);
    }
}
