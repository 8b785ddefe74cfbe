import java.io.IOException;
import java.lang.reflect.Method;
import java.nio.file.Files;
import java.nio.file.Path;
import java.util.regex.Matcher;
import java.util.regex.Pattern;

// The calls of README.md's example, in their order on one object, answer what stands behind them.
public final class Readme {
    private static final Pattern CALL = Pattern.compile("^x\\.(\\w+)\\(([^)]*)\\);\\s*// (-?\\d+)$");
    private static int wrong = 0;
    private static int asked = 0;

    private static Method methodOf(String name) {
        for (Method method : BlueSmoke.class.getDeclaredMethods()) {
            if (method.getName().equals(name)) {
                return method;
            }
        }
        throw new IllegalStateException("README.md names a call that is none: " + name);
    }

    /** A number as Java writes it, with an L behind a long one. */
    private static Object argument(String text, Class<?> kind) {
        long value = Long.decode(text.trim().replace("L", ""));
        if (kind == long.class) {
            return value;
        }
        return (int) value;
    }

    private static void ask(BlueSmoke x, Matcher call) throws ReflectiveOperationException {
        Method method = methodOf(call.group(1));
        Class<?>[] kinds = method.getParameterTypes();
        Object[] arguments = new Object[kinds.length];
        String[] texts = call.group(2).split(",");
        for (int i = 0; i < kinds.length; i++) {
            arguments[i] = argument(texts[i], kinds[i]);
        }
        long got = ((Number) method.invoke(x, arguments)).longValue();
        asked++;
        if (got != Long.parseLong(call.group(3))) {
            wrong++;
            System.out.println(call.group() + " answered " + got);
        }
    }

    public static void main(String[] args) throws IOException, ReflectiveOperationException {
        BlueSmoke x = new BlueSmoke();
        for (String line : Files.readAllLines(Path.of("README.md"))) {
            Matcher call = CALL.matcher(line);
            if (call.find()) {
                ask(x, call);
            } else if (line.startsWith("x.")) {
                wrong++;
                System.out.println("no answer stands behind: " + line);
            }
        }
        System.out.println(wrong + " of " + asked + " calls of README.md answer otherwise");
        if (wrong != 0 || asked == 0) {
            System.exit(1);
        }
    }
}
