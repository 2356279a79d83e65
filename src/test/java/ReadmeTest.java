import java.io.IOException;
import java.lang.reflect.Method;
import java.nio.file.Files;
import java.nio.file.Path;
import java.util.TreeSet;
import java.util.regex.Matcher;
import java.util.regex.Pattern;

/** What README.md shows is so: each call of its example answers what stands behind it, and each call is told of. */
public final class ReadmeTest {
    // A call on x with plain numbers, and behind // the answer that is due.
    private static final Pattern EXAMPLE = Pattern.compile("(?m)^x\\.(\\w+)\\((.*?)\\); +// (-?\\d+)\\b.*$");
    private static int wrong = 0;

    private static void check(boolean fine, String what) {
        if (!fine) {
            wrong++;
            System.out.println(what);
        }
    }

    public static void main(String[] args) throws IOException, ReflectiveOperationException {
        String readme = Files.readString(Path.of("README.md"));
        checkExample(readme);
        checkCalls(readme);
        System.out.println(wrong == 0 ? "README.md is so" : wrong + " things in README.md are not so");
        if (wrong != 0) {
            System.exit(1);
        }
    }

    private static void checkExample(String readme) throws ReflectiveOperationException {
        DoorCodes x = new DoorCodes();
        Matcher lines = EXAMPLE.matcher(readme);
        int calls = 0;
        while (lines.find()) {
            calls++;
            Object got = call(x, lines.group(1), lines.group(2));
            check(got.equals(Integer.valueOf(lines.group(3))), lines.group() + " answered " + got);
        }
        Matcher all = Pattern.compile("(?m)^x\\.").matcher(readme);
        int due = 0;
        while (all.find()) {
            due++;
        }
        check(calls == due && calls > 10, calls + " calls of the example were tried, of " + due);
    }

    private static Object call(DoorCodes x, String name, String numbers) throws ReflectiveOperationException {
        for (Method method : DoorCodes.class.getMethods()) {
            if (method.getName().equals(name)) {
                Class<?>[] types = method.getParameterTypes();
                String[] parts = numbers.isEmpty() ? new String[0] : numbers.split(", *");
                Object[] values = new Object[types.length];
                for (int i = 0; i < types.length; i++) {
                    long v = Long.decode(parts[i].replace("L", ""));
                    // By if, as ?: would make an Integer a Long again.
                    if (types[i] == long.class) {
                        values[i] = v;
                    } else {
                        values[i] = (int) v;
                    }
                }
                return method.invoke(x, values);
            }
        }
        return "nothing, as there is no such call";
    }

    private static void checkCalls(String readme) {
        TreeSet<String> names = new TreeSet<>();
        for (Method method : DoorCodes.class.getDeclaredMethods()) {
            if (java.lang.reflect.Modifier.isPublic(method.getModifiers())) {
                names.add(method.getName());
            }
        }
        for (String name : names) {
            check(readme.contains("| `" + name + "("), "README.md tells nothing of " + name);
        }
    }
}
