import java.io.IOException;
import java.lang.reflect.Method;
import java.lang.reflect.Modifier;
import java.nio.file.Files;
import java.nio.file.Path;
import java.util.Arrays;
import java.util.List;
import java.util.regex.Matcher;
import java.util.regex.Pattern;

/** README.md's example answers what it says, and its table has every public method. */
public final class ReadmeTest {
    private static final Pattern MAKING = Pattern.compile("EspAntiReplay x = new EspAntiReplay\\((-?\\d+)\\);.*");
    private static final Pattern CALL = Pattern.compile("x\\.(\\w+)\\(([-\\d, ]*)\\); +// (-?\\d+): .*");

    private static final Due due = new Due();

    public static void main(String[] args) throws IOException, ReflectiveOperationException {
        List<String> readme = Files.readAllLines(Path.of("README.md"));
        due.part("README.md");
        example(readme);
        table(readme);
        due.finish();
    }

    private static void example(List<String> readme) throws ReflectiveOperationException {
        int start = readme.indexOf("```java");
        due.is("has an example", start >= 0 ? 1 : 0, 1);
        if (start < 0) return;
        EspAntiReplay x = null;
        for (String line : readme.subList(start + 1, readme.size())) {
            if (line.equals("```")) return;
            Matcher making = MAKING.matcher(line);
            Matcher call = CALL.matcher(line);
            if (making.matches()) x = new EspAntiReplay(Integer.parseInt(making.group(1)));
            else if (call.matches()) due.is(line, answer(x, call), Integer.parseInt(call.group(3)));
            else due.is("can be read: " + line, 0, 1);
        }
    }

    private static int answer(EspAntiReplay x, Matcher call) throws ReflectiveOperationException {
        Object[] values = Arrays.stream(call.group(2).split(", *")).map(Integer::valueOf).toArray();
        Class<?>[] types = new Class<?>[values.length];
        Arrays.fill(types, int.class);
        return (int) EspAntiReplay.class.getMethod(call.group(1), types).invoke(x, values);
    }

    private static void table(List<String> readme) {
        for (Method method : EspAntiReplay.class.getDeclaredMethods()) {
            if (!Modifier.isPublic(method.getModifiers())) continue;
            String row = "\\| `" + method.getName() + "\\((\\w+(, \\w+){" + Math.max(0, method.getParameterCount() - 1) + "})?\\)` \\|.*";
            long rows = readme.stream().filter(line -> line.matches(row)).count();
            due.is("rows of " + method.getName(), rows, 1);
        }
    }
}
