import java.lang.reflect.Method;
import java.lang.reflect.Modifier;
import java.nio.file.Files;
import java.nio.file.Path;
import java.util.regex.Matcher;
import java.util.regex.Pattern;

/** What README.md shows holds: each of its calls answers the number that its comment begins with, and none is missing. */
public final class ReadmeTest {
    private static final Pattern LINE = Pattern.compile("x\\.(\\w+)\\(([-\\d, ]*)\\);\\s*// (-?\\d+)(:.*)?");
    private static int wrong = 0;
    private static int ran = 0;

    public static void main(String[] args) throws Exception {
        String text = Files.readString(Path.of("README.md"));
        FewThatMatter x = new FewThatMatter();
        for (String line : text.split("\n")) {
            Matcher call = LINE.matcher(line);
            if (call.matches()) {
                due(line, answer(x, call.group(1), call.group(2)), Long.parseLong(call.group(3)));
            } else if (line.startsWith("x.")) {
                due("a line that has no answer: " + line, 0, 1);
            }
        }
        due("whether any line was run", ran > 0 ? 1 : 0, 1);
        for (Method method : FewThatMatter.class.getDeclaredMethods()) {
            boolean open = Modifier.isPublic(method.getModifiers());
            due("rows of " + method.getName(), !open || text.contains("| `" + method.getName() + "(") ? 1 : 0, 1);
        }
        System.out.println(wrong == 0 ? "README.md holds" : wrong + " things of README.md do not hold");
        if (wrong != 0) {
            System.exit(1);
        }
    }

    private static void due(String what, long got, long want) {
        if (got != want) {
            wrong++;
            System.out.println(what + " answered " + got + ", due is " + want);
        }
    }

    private static long answer(FewThatMatter x, String name, String numbers) throws Exception {
        ran++;
        String[] parts = numbers.isBlank() ? new String[0] : numbers.split(", ");
        Object[] values = new Object[parts.length];
        for (int i = 0; i < parts.length; i++) {
            values[i] = Integer.parseInt(parts[i]);
        }
        for (Method method : FewThatMatter.class.getMethods()) {
            if (method.getName().equals(name) && method.getParameterCount() == parts.length) {
                return ((Number) method.invoke(x, values)).longValue();
            }
        }
        throw new IllegalArgumentException("no such call: " + name);
    }
}
