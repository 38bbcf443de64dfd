import java.io.IOException;
import java.lang.reflect.Method;
import java.nio.file.Files;
import java.nio.file.Path;
import java.util.regex.Matcher;
import java.util.regex.Pattern;
import java.util.stream.Stream;

/** The calls that README.md shows answer what stands behind them there. */
public final class ReadmeTest {
    private static final Pattern TEXT = Pattern.compile("String text = \"(.*)\";");
    private static final Pattern CALL = Pattern.compile("x\\.(\\w+)\\(([-0-9, ]*)\\); +// (-?\\d+).*");
    private static final Pattern CONSTANT = Pattern.compile("\\| `(\\w+)` \\| (-\\d+) \\|.*");

    private final Checks checks = new Checks();
    private final AdjectiveCoupons x = new AdjectiveCoupons();

    private ReadmeTest() {
    }

    public static void main(String[] args) throws IOException, ReflectiveOperationException {
        new ReadmeTest().read(Files.readString(Path.of("README.md")));
    }

    private void read(String page) throws ReflectiveOperationException {
        int constants = 0;
        int calls = 0;
        for (String line : page.split("\n")) {
            Matcher text = TEXT.matcher(line);
            Matcher call = CALL.matcher(line);
            Matcher constant = CONSTANT.matcher(line);
            if (text.matches()) {
                Checks.write(x, text.group(1));
            } else if (call.matches()) {
                checks.due(line, answer(call.group(1), call.group(2)), Integer.parseInt(call.group(3)));
                calls++;
            } else if (constant.matches()) {
                int number = AdjectiveCoupons.class.getField(constant.group(1)).getInt(null);
                checks.due(line, number, Integer.parseInt(constant.group(2)));
                constants++;
            } else {
                checks.due("a call without its answer: " + line, line.startsWith("x.") ? 1 : 0, 0);
            }
        }
        checks.due("constants shown", constants, 5);
        checks.due("calls shown", calls > 0 ? 1 : 0, 1);
        checks.finish();
    }

    private int answer(String name, String arguments) throws ReflectiveOperationException {
        Object[] numbers = Stream.of(arguments.split(",")).map(String::trim).filter(s -> !s.isEmpty())
            .map(Integer::valueOf).toArray();
        for (Method method : AdjectiveCoupons.class.getDeclaredMethods()) {
            if (method.getName().equals(name)) {
                return (int) method.invoke(x, numbers);
            }
        }
        throw new NoSuchMethodException(name);
    }
}
