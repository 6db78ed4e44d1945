import java.io.IOException;
import java.lang.reflect.InvocationTargetException;
import java.lang.reflect.Method;
import java.nio.file.Files;
import java.nio.file.Path;
import java.util.HashMap;
import java.util.Map;
import java.util.regex.Matcher;
import java.util.regex.Pattern;

/** The examples of README.md answer as they say there: each call with the number behind "//". */
public final class ReadmeTest {
    private static final Pattern CALL = Pattern.compile(
            "(?:int (\\w+) = )?wire\\.(\\w+)\\((.*?)\\);\\s*// (-?\\d+)\\b.*");
    private static final String NEW_OBJECT = "FederationWire wire = new FederationWire();";

    private final Check check = new Check("README.md");
    private final Map<String, Integer> names = new HashMap<>();
    private FederationWire wire = null;

    public static void main(String[] args) throws IOException, IllegalAccessException {
        new ReadmeTest().go();
    }

    private void go() throws IOException, IllegalAccessException {
        boolean example = false;
        int examples = 0;
        for (String line : Files.readAllLines(Path.of("README.md"))) {
            if (line.startsWith("```")) {
                example = line.equals("```java");
                examples += example ? 1 : 0;
            } else if (example) {
                run(line);
            }
        }
        check.due("examples", examples, 2);
        check.end();
    }

    private void run(String line) throws IllegalAccessException {
        Matcher call = CALL.matcher(line);
        if (line.equals(NEW_OBJECT)) {
            wire = new FederationWire();
            names.clear();
        } else if (wire == null || !call.matches()) {
            check.fault("no call with its answer: " + line);
        } else {
            int answer = answerOf(call.group(2), call.group(3).split(", "));
            check.due(line, answer, Integer.parseInt(call.group(4)));
            if (call.group(1) != null) {
                names.put(call.group(1), answer);
            }
        }
    }

    private int answerOf(String name, String[] written) throws IllegalAccessException {
        for (Method method : FederationWire.class.getMethods()) {
            if (method.getName().equals(name) && method.getParameterCount() == written.length) {
                Object[] values = new Object[written.length];
                for (int i = 0; i < values.length; i++) {
                    values[i] = value(written[i], method.getParameterTypes()[i]);
                }
                try {
                    return (Integer) method.invoke(wire, values);
                } catch (InvocationTargetException thrown) {
                    throw new IllegalStateException(name + " threw", thrown.getCause());
                }
            }
        }
        throw new IllegalStateException("no such call: " + name);
    }

    private Object value(String written, Class<?> type) {
        if (type == boolean.class) {
            return Boolean.valueOf(written);
        }
        if (type == byte.class) {
            return Byte.valueOf(written.replace("(byte) ", ""));
        }
        Integer named = names.get(written);
        return named != null ? named : Integer.valueOf(written);
    }
}
