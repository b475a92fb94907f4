import java.io.IOException;
import java.lang.reflect.InvocationTargetException;
import java.lang.reflect.Method;
import java.lang.reflect.Modifier;
import java.nio.file.Files;
import java.nio.file.Path;
import java.util.Arrays;
import java.util.Set;
import java.util.TreeSet;
import java.util.regex.Matcher;
import java.util.regex.Pattern;

/** README.md tells each call of the face, and the answers of its example are right. */
public final class ReadmeTest {
    private static final Pattern CALL = Pattern.compile("x\\.(\\w+)\\(([^)]*)\\); +// (-?\\d+|true|false)(?::.*)?");
    private static final Checks C = new Checks();

    public static void main(String[] args) throws IOException, ReflectiveOperationException {
        String page = Files.readString(Path.of("README.md"));
        tellsEachCall(page);
        answersAreRight(page);
        C.due("tells how to run the tests", page.contains("\n.ci/run\n"), true);
        C.end("ReadmeTest");
    }

    /** The table has a row for each method, with as many arguments as it takes. */
    private static void tellsEachCall(String page) {
        int methods = 0;
        for (Method m : HuntingRudder.class.getDeclaredMethods()) {
            if (Modifier.isPublic(m.getModifiers())) {
                methods++;
                Matcher row = Pattern.compile("\n\\| `" + m.getName() + "\\(([^)]*)\\)` \\|").matcher(page);
                C.due("README.md tells " + m.getName(), row.find(), true);
                C.due("arguments of " + m.getName(), arguments(row.group(1)).length, m.getParameterCount());
            }
        }
        C.due("methods of the face", methods, 24);
        C.due("and the constructor", page.contains("\n| `HuntingRudder()` |"), true);
    }

    private static String[] arguments(String list) {
        return list.isBlank() ? new String[0] : list.split(", ");
    }

    private static void answersAreRight(String page) throws ReflectiveOperationException {
        int from = page.indexOf("```java\nHuntingRudder x = new HuntingRudder();\n");
        C.due("there is an example", from >= 0, true);
        HuntingRudder x = new HuntingRudder();
        Set<String> called = new TreeSet<>();
        for (String line : page.substring(from, page.indexOf("\n```\n", from)).split("\n")) {
            if (line.startsWith("x.")) {
                Matcher call = CALL.matcher(line);
                C.due("a call with its answer: " + line, call.matches(), true);
                C.due(line, answer(x, call.group(1), arguments(call.group(2))), due(call.group(3)));
                called.add(call.group(1));
            }
        }
        C.due("every call is shown: " + called, called.size(), 24);
    }

    private static long due(String told) {
        return told.equals("true") ? 1 : told.equals("false") ? 0 : Long.parseLong(told);
    }

    private static long answer(HuntingRudder x, String name, String[] arguments) throws ReflectiveOperationException {
        Class<?>[] types = new Class<?>[arguments.length];
        Arrays.fill(types, int.class);
        Object[] values = Arrays.stream(arguments).map(a -> (Object) Integer.decode(a)).toArray();
        try {
            Object got = HuntingRudder.class.getMethod(name, types).invoke(x, values);
            return got instanceof Boolean b ? b ? 1 : 0 : ((Integer) got).longValue();
        } catch (InvocationTargetException e) {
            return Long.MIN_VALUE;
        }
    }
}
