import java.io.IOException;
import java.lang.reflect.Method;
import java.nio.file.Files;
import java.nio.file.Path;
import java.util.Set;
import java.util.TreeSet;
import java.util.regex.Matcher;
import java.util.regex.Pattern;
import java.util.stream.Stream;

/** The example of README.md, read from there: each call answers what its comment says. Runs in the checkout's top. */
final class ReadmeTest {
    private static final Check check = new Check("ReadmeTest");
    private static final Pattern MADE = Pattern.compile("BranchTrees t = new BranchTrees\\((\\d+)\\);.*");
    private static final Pattern CALL = Pattern.compile("t\\.(\\w+)\\(([^)]*)\\); *// (-?\\d+)(:.*)?");

    private ReadmeTest() {
    }

    private static Method method(String name) {
        return Stream.of(BranchTrees.class.getMethods()).filter(m -> m.getName().equals(name)).findFirst().orElseThrow();
    }

    private static long answer(BranchTrees t, String name, String arguments) throws ReflectiveOperationException {
        Object[] numbers = Stream.of(arguments.split(", *")).filter(a -> !a.isEmpty()).map(Integer::valueOf).toArray();
        return ((Number) method(name).invoke(t, numbers)).longValue();
    }

    /** Only a call whose answer is told counts as shown. */
    private static Set<String> shown() throws IOException, ReflectiveOperationException {
        Set<String> shown = new TreeSet<>();
        BranchTrees t = null;
        for (String line : Files.readAllLines(Path.of("README.md"))) {
            Matcher made = MADE.matcher(line);
            Matcher call = CALL.matcher(line);
            if (made.matches()) {
                t = new BranchTrees(Integer.parseInt(made.group(1)));
            } else if (call.matches()) {
                check.due(line, answer(t, call.group(1), call.group(2)), Long.parseLong(call.group(3)));
                shown.add(call.group(1));
            }
        }
        return shown;
    }

    private static Set<String> publicMethods() {
        Set<String> names = new TreeSet<>();
        for (Method m : BranchTrees.class.getMethods()) {
            if (m.getDeclaringClass() == BranchTrees.class) {
                names.add(m.getName());
            }
        }
        return names;
    }

    public static void main(String[] args) throws IOException, ReflectiveOperationException {
        check.same("the methods that the example shows", shown().toString(), publicMethods().toString());
        check.end();
    }
}
