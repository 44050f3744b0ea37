import java.io.IOException;
import java.lang.reflect.Method;
import java.lang.reflect.Modifier;
import java.nio.file.Files;
import java.nio.file.Path;
import java.util.Map;
import java.util.TreeMap;
import java.util.regex.Matcher;
import java.util.regex.Pattern;

/** The page README.md: what its example says of answers is so, and it names every call. */
public final class ReadmeTest {
    private static final Pattern TEXT = Pattern.compile("int\\[] text = \"([^\"]*)\"\\.chars\\(\\)\\.toArray\\(\\);.*");
    private static final Pattern PUT = Pattern.compile("for \\(.*\\) keys\\.put\\(0, i, text\\[i]\\);");
    private static final Pattern CALL = Pattern.compile("keys\\.(\\w+)\\(([^)]*)\\);\\s*// (-?\\d+)\\b.*");
    private static final Map<String, Method> calls = new TreeMap<>();
    private static final Due due = new Due();

    public static void main(String[] args) throws IOException, ReflectiveOperationException {
        for (Method method : MacroKeys.class.getDeclaredMethods()) {
            if (Modifier.isPublic(method.getModifiers())) {
                calls.put(method.getName(), method);
            }
        }
        String page = Files.readString(Path.of("README.md"));
        due.part("the example");
        example(between(page, "```java\n", "```"));
        due.part("the tables");
        for (Method call : calls.values()) {
            tabled(page, call);
        }
        due.end();
    }

    private static String between(String page, String begin, String end) {
        int from = page.indexOf(begin) + begin.length();
        return page.substring(from, page.indexOf(end, from));
    }

    private static void example(String code) throws ReflectiveOperationException {
        MacroKeys keys = new MacroKeys();
        int[] text = {};
        int answers = 0;
        for (String line : code.split("\n")) {
            Matcher told = TEXT.matcher(line);
            Matcher call = CALL.matcher(line);
            if (told.matches()) {
                text = told.group(1).chars().toArray();
            } else if (PUT.matcher(line).matches()) {
                for (int i = 0; i < text.length; i++) {
                    keys.put(0, i, text[i]);
                }
            } else if (call.matches()) {
                due.is(line, answer(keys, call.group(1), call.group(2), text.length), Long.parseLong(call.group(3)));
                answers++;
            } else {
                due.is("a line of the example", line, "MacroKeys keys = new MacroKeys();");
            }
        }
        due.is("there are answers", answers > 0 ? 1 : 0, 1);
    }

    private static long answer(MacroKeys keys, String name, String told, int length)
            throws ReflectiveOperationException {
        String[] numbers = told.isEmpty() ? new String[0] : told.replace("text.length", "" + length).split(", ");
        Object[] arguments = new Object[numbers.length];
        for (int i = 0; i < numbers.length; i++) {
            arguments[i] = Integer.valueOf(numbers[i]);
        }
        return ((Number) calls.get(name).invoke(keys, arguments)).longValue();
    }

    /** A table has it, with as many arguments as it takes. */
    private static void tabled(String page, Method call) {
        String more = call.getParameterCount() == 0 ? "" : "\\w+(, \\w+){" + (call.getParameterCount() - 1) + "}";
        Pattern cell = Pattern.compile("(?m)^\\|[^|]*`" + call.getName() + "\\(" + more + "\\)`[^|]*\\|");
        due.is(call.getName(), cell.matcher(page).find() ? 1 : 0, 1);
    }
}
