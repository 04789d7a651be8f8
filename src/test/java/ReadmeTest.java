import java.lang.reflect.Method;
import java.lang.reflect.Modifier;
import java.nio.file.Files;
import java.nio.file.Path;
import java.util.regex.Matcher;
import java.util.regex.Pattern;

/** README.md: each call under "Use" answers the number behind it, and each call of the class has its row. */
public final class ReadmeTest {
    private static final Pattern EXAMPLE = Pattern.compile("(?m)^sale\\.([a-z]+)\\(([-0-9, ]*)\\); +// (-?[0-9]+): ");
    private static final int EXAMPLES = 17;

    public static void main(String[] args) throws Exception {
        String text = Files.readString(Path.of("README.md"));
        examples(text);
        rows(text);
        Check.end();
    }

    private static void examples(String text) throws ReflectiveOperationException {
        DoubtSale sale = new DoubtSale();
        Matcher example = EXAMPLE.matcher(text);
        int many = 0;
        while (example.find()) {
            many++;
            String call = example.group(1) + "(" + example.group(2) + ")";
            Check.due(call, answer(sale, example.group(1), example.group(2)), Long.parseLong(example.group(3)));
        }
        // Else a changed line would no longer be looked at, and none would tell.
        Check.due("examples read", many, EXAMPLES);
        Check.due("lines of examples", Pattern.compile("(?m)^sale\\.").matcher(text).results().count(), EXAMPLES);
    }

    private static long answer(DoubtSale sale, String name, String numbers) throws ReflectiveOperationException {
        String[] told = numbers.isEmpty() ? new String[0] : numbers.split(", ");
        Object[] arguments = new Object[told.length];
        for (int i = 0; i < told.length; i++) {
            arguments[i] = Integer.valueOf(told[i]);
        }
        for (Method method : DoubtSale.class.getDeclaredMethods()) {
            if (method.getName().equals(name) && method.getParameterCount() == told.length) {
                return ((Number) method.invoke(sale, arguments)).longValue();
            }
        }
        throw new NoSuchMethodException(name + " of " + told.length + " numbers");
    }

    private static void rows(String text) {
        for (Method method : DoubtSale.class.getDeclaredMethods()) {
            if (Modifier.isPublic(method.getModifiers())) {
                String numbers = "[a-z]+(, [a-z]+){" + Math.max(0, method.getParameterCount() - 1) + "}";
                String row = "(?m)^\\| `" + method.getName() + "\\("
                        + (method.getParameterCount() == 0 ? "" : numbers) + "\\)` \\|";
                Check.due("rows of " + method.getName(), Pattern.compile(row).matcher(text).results().count(), 1);
            }
        }
    }
}
