import java.io.IOException;
import java.lang.reflect.Method;
import java.nio.file.Files;
import java.nio.file.Path;
import java.util.List;
import java.util.regex.Matcher;
import java.util.regex.Pattern;

/** Each answer that README.md tells is the one that the call gives. Run from the project's folder. */
public final class ReadmeTest {
    private static final Pattern TEXT = Pattern.compile("String text = \"(.*)\";");
    private static final Pattern CALL = Pattern.compile("x\\.(\\w+)\\((.*)\\); *// (-?\\d+): .*");
    private static final int CALLS_AT_LEAST = 30;

    public static void main(String[] args) throws IOException, ReflectiveOperationException {
        MustardFast x = new MustardFast();
        String text = "";
        int calls = 0;
        for (String line : Files.readAllLines(Path.of("README.md"))) {
            Matcher told = TEXT.matcher(line);
            Matcher call = CALL.matcher(line);
            if (told.matches()) {
                text = told.group(1);
            } else if (line.contains("x.put(0, i, text.charAt(i));")) {
                putCodes(x, text);
            } else if (call.matches()) {
                Due.is(Long.parseLong(call.group(3)), answer(x, call.group(1), call.group(2)), line);
                calls++;
            } else {
                Due.holds(!line.startsWith("x."), "a call without an answer: " + line);
            }
        }
        Due.holds(calls >= CALLS_AT_LEAST, calls + " calls are told");
        Due.end();
    }

    private static void putCodes(MustardFast x, String text) {
        Due.holds(!text.isEmpty(), "a text ahead of its codes");
        for (int i = 0; i < text.length(); i++) {
            Due.is(1, x.put(0, i, text.charAt(i)), "put of code " + i);
        }
    }

    private static long answer(MustardFast x, String name, String list) throws ReflectiveOperationException {
        List<String> given = list.isEmpty() ? List.of() : List.of(list.split(", "));
        for (Method m : MustardFast.class.getMethods()) {
            if (m.getName().equals(name) && m.getParameterCount() == given.size()) {
                return ((Number) m.invoke(x, arguments(m, given))).longValue();
            }
        }
        throw new NoSuchMethodException(name + " of " + given.size());
    }

    private static Object[] arguments(Method m, List<String> given) {
        Object[] arguments = new Object[given.size()];
        for (int i = 0; i < arguments.length; i++) {
            boolean isTruth = m.getParameterTypes()[i] == boolean.class;
            arguments[i] = isTruth ? (Object) Boolean.valueOf(given.get(i)) : (Object) Integer.valueOf(given.get(i));
        }
        return arguments;
    }
}
