import java.io.IOException;
import java.lang.reflect.Field;
import java.lang.reflect.Method;
import java.lang.reflect.Modifier;
import java.nio.file.Files;
import java.nio.file.Path;
import java.util.ArrayList;
import java.util.Collections;
import java.util.List;
import java.util.regex.Matcher;
import java.util.regex.Pattern;

/** README.md tells the truth where it can be tried: its example, its table of the calls and its constants. */
public final class ReadmeTest {
    private static final Pattern EXAMPLE = Pattern.compile("(?m)^x\\.(\\w+)\\((.*)\\); +// answers ([\\w.-]+)(:.*)?$");
    private static final Pattern ROW = Pattern.compile("(?m)^\\| `(\\w+)\\((.*)\\)` \\|.*\\|([^|]*)\\|([^|]*)\\|$");
    private static final Pattern CONSTANT = Pattern.compile("`([A-Z][A-Z0-9_]+)`\\s(-?\\d+)");
    private static final int NO_INDEX = -2;

    private final Due due = new Due();
    private final String readme;

    private ReadmeTest(String readme) {
        this.readme = readme;
    }

    public static void main(String[] args) throws IOException, ReflectiveOperationException {
        ReadmeTest test = new ReadmeTest(Files.readString(Path.of("README.md")));
        test.theExampleAnswersAsItSays();
        test.theTableHasEveryCall();
        test.refusedCallsAnswerAsTheTableSays();
        test.everyConstantHasItsValue();
        test.due.end();
    }

    private void theExampleAnswersAsItSays() throws ReflectiveOperationException {
        String start = "GrandClock x = new GrandClock(3, 4, 2);\n";
        due.that(readme.contains(start), "the example begins with " + start.trim());
        GrandClock x = new GrandClock(3, 4, 2);
        Matcher line = EXAMPLE.matcher(readme);
        int lines = 0;
        while (line.find()) {
            Object got = call(x, line.group(1), line.group(2).split(", "));
            due.that(got.toString().equals(valueOf(line.group(3))), line.group() + ", but it answers " + got);
            lines++;
        }
        int calls = readme.split("\nx\\.", -1).length - 1;
        due.that(lines == calls && lines > 0, "each line of the example tells its answer");
    }

    private void theTableHasEveryCall() {
        List<String> rows = new ArrayList<>();
        Matcher row = ROW.matcher(readme);
        while (row.find()) {
            rows.add(row.group(1) + " with " + row.group(2).split(", ").length);
        }
        List<String> methods = new ArrayList<>();
        for (Method method : GrandClock.class.getDeclaredMethods()) {
            if (Modifier.isPublic(method.getModifiers())) {
                methods.add(method.getName() + " with " + method.getParameterCount());
            }
        }
        Collections.sort(rows);
        Collections.sort(methods);
        due.same(rows, methods, "the table of the calls");
    }

    private void refusedCallsAnswerAsTheTableSays() throws ReflectiveOperationException {
        Matcher row = ROW.matcher(readme);
        while (row.find()) {
            if (row.group(3).trim().equals("never")) {
                continue;
            }
            String[] args = row.group(2).replaceAll("\\w+", String.valueOf(NO_INDEX)).split(", ");
            Object got = call(Scenes.busy(), row.group(1), args);
            String told = row.group(4).trim().replace("`", "");
            due.that(got.toString().equals(valueOf(told)), row.group(1) + " refused: " + told + ", but it answers " + got);
        }
    }

    private void everyConstantHasItsValue() throws ReflectiveOperationException {
        List<String> told = new ArrayList<>();
        Matcher constant = CONSTANT.matcher(readme);
        while (constant.find()) {
            told.add(constant.group(1) + " " + constant.group(2));
        }
        List<String> real = new ArrayList<>();
        for (Field field : GrandClock.class.getFields()) {
            real.add(field.getName() + " " + field.get(null));
        }
        Collections.sort(told);
        Collections.sort(real);
        due.same(told, real, "the constants");
    }

    private static Object call(GrandClock x, String name, String[] args) throws ReflectiveOperationException {
        for (Method method : GrandClock.class.getDeclaredMethods()) {
            if (method.getName().equals(name)) {
                Class<?>[] types = method.getParameterTypes();
                Object[] values = new Object[types.length];
                for (int i = 0; i < types.length; i++) {
                    values[i] = argument(types[i], valueOf(args[i]));
                }
                return method.invoke(x, values);
            }
        }
        throw new NoSuchMethodException(name);
    }

    private static Object argument(Class<?> type, String text) {
        if (type == boolean.class) {
            return Boolean.valueOf(text);
        }
        if (type == long.class) {
            return Long.valueOf(text.replace("L", ""));
        }
        return Integer.valueOf(text);
    }

    /** A number or truth value as it is written, or the value of a constant. */
    private static String valueOf(String text) throws ReflectiveOperationException {
        String name = text.replace("GrandClock.", "");
        boolean constant = name.matches("[A-Z].*");
        return constant ? GrandClock.class.getField(name).get(null).toString() : name;
    }
}
