import java.io.IOException;
import java.lang.reflect.Method;
import java.nio.file.Files;
import java.nio.file.Path;
import java.util.HashSet;
import java.util.Set;
import java.util.regex.Matcher;
import java.util.regex.Pattern;

/** Each line of README.md's example answers what stands behind it, and the example has every method. */
public final class ReadmeTest {
    private static final Pattern LINE = Pattern.compile("pages\\.(\\w+)\\(([^)]*)\\);\\s*// (-?\\d+)(:.*)?");

    public static void main(String[] args) throws IOException, ReflectiveOperationException {
        ShadowPages pages = new ShadowPages();
        Set<String> called = new HashSet<>();
        for (String line : Files.readAllLines(Path.of("README.md"))) {
            if (line.startsWith("pages.")) {
                Matcher matcher = LINE.matcher(line);
                Due.due("has an answer behind it: " + line, matcher.matches() ? 1 : 0, 1);
                if (matcher.matches()) {
                    int want = Integer.parseInt(matcher.group(3));
                    Due.due("README.md: " + line, call(pages, matcher.group(1), matcher.group(2)), want);
                    called.add(matcher.group(1));
                }
            }
        }
        Due.due("methods in the example", called.size(), 10);
        Due.end();
    }

    private static int call(ShadowPages pages, String name, String list) throws ReflectiveOperationException {
        String[] words = list.split(", ");
        Object[] arguments = new Object[words.length];
        for (int k = 0; k < words.length; k++) {
            boolean isNumber = words[k].matches("-?\\d+");
            arguments[k] = isNumber ? (Object) Integer.valueOf(words[k]) : (Object) Boolean.valueOf(words[k]);
        }
        return (int) methodNamed(name).invoke(pages, arguments);
    }

    private static Method methodNamed(String name) throws NoSuchMethodException {
        for (Method method : ShadowPages.class.getMethods()) {
            if (method.getName().equals(name)) {
                return method;
            }
        }
        throw new NoSuchMethodException(name);
    }
}
