import java.io.IOException;
import java.lang.reflect.InvocationTargetException;
import java.lang.reflect.Method;
import java.nio.file.Files;
import java.nio.file.Path;
import java.util.Arrays;
import java.util.regex.Matcher;
import java.util.regex.Pattern;

/** Every call that README.md shows is made, in its order, and answers what stands behind it there. */
public final class ReadmeTest {
    private static final Due due = new Due();
    private static final Pattern CALL = Pattern.compile("x\\.(\\w+)\\(([^)]*)\\);\\s*// (-?\\d+)\\b.*");
    private static final int CALLS_PROMISED = 512;

    public static void main(String[] args) throws IOException, ReflectiveOperationException {
        String page = Files.readString(Path.of("README.md"));
        calls(page);
        names(page);
        due.close();
    }

    private static void calls(String page) throws ReflectiveOperationException {
        due.part("README.md, calls");
        SplitProgram x = new SplitProgram();
        int made = 0;
        for (String line : page.split("\n")) {
            Matcher m = CALL.matcher(line);
            due.is("a line that can be checked: " + line, line.startsWith("x.") && !m.matches() ? 1 : 0, 0);
            if (m.matches()) {
                due.is(line, answer(x, m.group(1), m.group(2)), Long.parseLong(m.group(3)));
                made++;
            }
        }
        due.is("some calls, and no more than an object is good for: " + made, made > 40 && made <= CALLS_PROMISED ? 1 : 0, 1);
    }

    private static long answer(SplitProgram x, String name, String told)
            throws NoSuchMethodException, IllegalAccessException, InvocationTargetException {
        String[] parts = told.isBlank() ? new String[0] : told.split(",");
        Object[] values = new Object[parts.length];
        for (int i = 0; i < parts.length; i++) {
            values[i] = Long.decode(parts[i].strip()).intValue();
        }
        Class<?>[] types = new Class<?>[parts.length];
        Arrays.fill(types, int.class);
        return ((Number) SplitProgram.class.getMethod(name, types).invoke(x, values)).longValue();
    }

    private static void names(String page) {
        due.part("README.md, the face");
        for (Method m : SplitProgram.class.getDeclaredMethods()) {
            if (java.lang.reflect.Modifier.isPublic(m.getModifiers())) {
                due.is("has " + m.getName(), page.contains("`" + m.getName() + "`") ? 1 : 0, 1);
            }
        }
    }
}
