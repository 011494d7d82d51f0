import java.io.IOException;
import java.lang.reflect.InvocationTargetException;
import java.lang.reflect.Method;
import java.nio.charset.StandardCharsets;
import java.nio.file.Files;
import java.nio.file.Path;
import java.util.HashMap;
import java.util.Map;
import java.util.regex.Matcher;
import java.util.regex.Pattern;

/** The answers that README.md writes behind the calls of its examples are those of the class. */
public final class ReadmeTest {
    private static final Pattern NEW = Pattern.compile("TimedCompiler (\\w+) = new TimedCompiler\\(\\);");
    private static final Pattern CALL = Pattern.compile("(\\w+)\\.(\\w+)\\((.*)\\); +// (throws \\w+|true|-?\\d+)(.*)");

    private final Map<String, TimedCompiler> objects = new HashMap<>();
    private int calls = 0;

    private static Object argument(String written, Class<?> type) {
        if (type == long.class) {
            return Long.decode(written.replace("L", ""));
        }
        return Integer.decode(written);
    }

    private static String answer(TimedCompiler object, String name, String[] written) throws IllegalAccessException {
        for (Method method : TimedCompiler.class.getMethods()) {
            Class<?>[] types = method.getParameterTypes();
            if (method.getName().equals(name) && types.length == written.length) {
                Object[] arguments = new Object[types.length];
                for (int i = 0; i < types.length; i++) {
                    arguments[i] = argument(written[i], types[i]);
                }
                try {
                    return String.valueOf(method.invoke(object, arguments));
                } catch (InvocationTargetException e) {
                    return "throws " + e.getCause().getClass().getSimpleName();
                }
            }
        }
        return "nothing, as there is no such call";
    }

    private void follow(String line) throws IllegalAccessException {
        Matcher made = NEW.matcher(line);
        Matcher call = CALL.matcher(line);
        if (made.matches()) {
            objects.put(made.group(1), new TimedCompiler());
        } else {
            Check.due(line + " is a call with its answer", call.matches(), true);
            TimedCompiler object = objects.get(call.group(1));
            String[] written = call.group(3).isEmpty() ? new String[0] : call.group(3).split(", ");
            Check.dueText(line, answer(object, call.group(2), written), call.group(4));
            if (call.group(2).equals("type")) {
                Check.due(line + " types these letters", Check.pack(call.group(5).substring(2)), Long.decode(written[0].replace("L", "")));
            }
            calls++;
        }
    }

    public static void main(String[] args) throws IOException, IllegalAccessException {
        ReadmeTest test = new ReadmeTest();
        boolean inExample = false;
        for (String line : Files.readAllLines(Path.of("README.md"), StandardCharsets.UTF_8)) {
            if (line.startsWith("```")) {
                inExample = line.equals("```java");
            } else if (inExample) {
                test.follow(line);
            }
        }
        Check.due("there are many calls", test.calls > 20, true);
        Check.finish("ReadmeTest");
    }
}
