import java.io.IOException;
import java.lang.reflect.InvocationTargetException;
import java.lang.reflect.Method;
import java.nio.file.Files;
import java.nio.file.Path;
import java.util.regex.Matcher;
import java.util.regex.Pattern;

/** The run of calls in README.md answers what stands behind each call there. */
public final class ReadmeTest {
    private static final Pattern TELL = Pattern.compile("^tell\\(x, \"(.*)\"\\);$");
    private static final Pattern CALL = Pattern.compile("^x\\.(\\w+)\\(([-0-9, ]*)\\); +// (throws \\w+|[-\\w]+).*$");

    public static void main(String[] args) throws IOException, IllegalAccessException {
        HookedCity x = new HookedCity();
        int calls = 0;
        for (String line : Files.readAllLines(Path.of("README.md"))) {
            Matcher tell = TELL.matcher(line);
            Matcher call = CALL.matcher(line);
            if (tell.matches()) {
                tell(x, tell.group(1));
            } else if (call.matches()) {
                String got = answer(x, call.group(1), call.group(2));
                Probe.due("README: " + line + " answered " + got, got.equals(call.group(3)), true);
                calls++;
            } else {
                Probe.due("README: a call without its answer: " + line, line.startsWith("x."), false);
            }
        }
        Probe.due("README has calls: " + calls, calls > 20, true);
        Probe.finish();
    }

    /** As README.md has it. */
    private static void tell(HookedCity x, String text) {
        int[] five = new int[5];
        for (int at = 0; at < text.length(); at += 20) {
            for (int i = 0; i < 20; i++) {
                int sign = at + i < text.length() ? text.charAt(at + i) : ' ';
                five[i / 4] = five[i / 4] << 8 | sign;
            }
            x.feed(five[0], five[1], five[2], five[3], five[4]);
        }
        x.end(text.length());
    }

    private static String answer(HookedCity x, String name, String numbers) throws IllegalAccessException {
        String[] parts = numbers.isEmpty() ? new String[0] : numbers.split(", ");
        Object[] values = new Object[parts.length];
        for (int i = 0; i < parts.length; i++) {
            values[i] = Integer.valueOf(parts[i]);
        }
        for (Method method : HookedCity.class.getMethods()) {
            if (method.getName().equals(name) && method.getDeclaringClass() == HookedCity.class) {
                try {
                    return String.valueOf(method.invoke(x, values));
                } catch (InvocationTargetException e) {
                    return "throws " + e.getCause().getClass().getSimpleName();
                }
            }
        }
        return "no such call";
    }
}
