import java.io.IOException;
import java.lang.reflect.InvocationTargetException;
import java.lang.reflect.Method;
import java.nio.file.Files;
import java.nio.file.Path;
import java.util.regex.Matcher;
import java.util.regex.Pattern;

/** What README.md shows of the class is true: each call there answers what the comment behind it begins with. */
public final class ReadmeTest {
    private static final Due due = new Due("ReadmeTest");
    private static final Pattern EXAMPLE = Pattern.compile("(?s)```java\n(.*?)```");
    private static final Pattern CALL =
        Pattern.compile("centre\\.(\\w+)\\((.*?)\\);(?:\\s*// (-?\\d+|true|false)\\b.*)?");

    public static void main(String[] args)
        throws IOException, IllegalAccessException, InvocationTargetException, NoSuchFieldException {
        String readme = Files.readString(Path.of("README.md"));
        int checked = 0;
        SeptetCentre centre = null;
        Matcher example = EXAMPLE.matcher(readme);
        while (example.find()) {
            for (String line : example.group(1).split("\n")) {
                due.about(line);
                Matcher call = CALL.matcher(line);
                if (line.contains("= new SeptetCentre()")) {
                    centre = new SeptetCentre();
                } else if (call.matches()) {
                    checked += answers(centre, call) ? 1 : 0;
                } else {
                    due.is("a line that is no call", line.isBlank(), true);
                }
            }
        }
        due.about("the examples");
        due.is("some calls have answers", checked > 10, true);
        constants(readme);
        due.end();
    }

    /** Makes the call; tells whether the line had an answer to compare. */
    private static boolean answers(SeptetCentre centre, Matcher call)
        throws IllegalAccessException, InvocationTargetException {
        Method method = methodOf(call.group(1));
        String[] written = call.group(2).isEmpty() ? new String[0] : call.group(2).split(", ");
        Object[] values = new Object[written.length];
        for (int k = 0; k < written.length; k++) {
            values[k] = valueOf(written[k], method.getParameterTypes()[k]);
        }
        String got = String.valueOf(method.invoke(centre, values));
        if (call.group(3) == null) {
            return false;
        }
        due.is("the answer is " + got + " and not " + call.group(3), got.equals(call.group(3)), true);
        return true;
    }

    private static Method methodOf(String name) {
        for (Method method : SeptetCentre.class.getDeclaredMethods()) {
            if (method.getName().equals(name)) {
                return method;
            }
        }
        throw new IllegalArgumentException("README.md calls " + name + ", which there is not");
    }

    private static Object valueOf(String written, Class<?> type) {
        if (type == char.class) {
            return written.charAt(1);
        }
        if (type == boolean.class) {
            return Boolean.valueOf(written);
        }
        return type == long.class ? (Object) Long.valueOf(written.replace("L", "")) : Integer.valueOf(written);
    }

    private static void constants(String readme) throws NoSuchFieldException, IllegalAccessException {
        Matcher row = Pattern.compile("\\| `([A-Z]+)` \\| (-?\\d+) \\|").matcher(readme);
        int found = 0;
        while (row.find()) {
            due.is(row.group(1), SeptetCentre.class.getField(row.group(1)).getInt(null), Integer.parseInt(row.group(2)));
            found++;
        }
        due.is("constants told", found, 6);
    }
}
