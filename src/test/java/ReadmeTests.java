import java.lang.reflect.InvocationTargetException;
import java.lang.reflect.Method;
import java.nio.charset.StandardCharsets;
import java.nio.file.Files;
import java.nio.file.Path;
import java.util.HashSet;
import java.util.Set;
import java.util.regex.Matcher;
import java.util.regex.Pattern;

/** The calls that README.md shows answer as it says. */
public final class ReadmeTests {
    private static final Pattern NEW = Pattern.compile("ShipUnstopped ship = new ShipUnstopped\\((\\d+)\\);.*");
    private static final Pattern CALL = Pattern.compile("ship\\.(\\w+)\\(([^)]*)\\);\\s+// (true|false|-?\\d+)(:.*)?");

    public static void main(String[] args) throws Exception {
        String readme = Files.readString(Path.of("README.md"), StandardCharsets.UTF_8);
        Matcher block = Pattern.compile("(?s)```java\n(.*?)```").matcher(readme);
        Due.yes("README.md shows how to use the class", block.find());
        ShipUnstopped ship = null;
        Set<String> shown = new HashSet<>();
        for (String line : block.group(1).split("\n")) {
            Matcher made = NEW.matcher(line);
            Matcher call = CALL.matcher(line);
            if (made.matches()) {
                ship = new ShipUnstopped(Integer.parseInt(made.group(1)));
            } else if (ship != null && call.matches()) {
                shown.add(call.group(1));
                Due.is(line, answer(ship, call.group(1), call.group(2)), value(call.group(3)));
            } else {
                Due.yes("a line that is neither: " + line, line.isBlank() || line.startsWith("//"));
            }
        }
        Due.yes("most calls are shown: " + shown.size(), shown.size() >= 20);
        Due.close("ReadmeTests");
    }

    private static int answer(ShipUnstopped ship, String name, String given) throws IllegalAccessException, InvocationTargetException {
        for (Method m : ShipUnstopped.class.getMethods()) {
            if (m.getName().equals(name)) {
                String[] parts = given.isEmpty() ? new String[0] : given.split(", ");
                Object[] values = new Object[parts.length];
                for (int i = 0; i < parts.length; i++) {
                    values[i] = m.getParameterTypes()[i] == boolean.class ? (Object) (value(parts[i]) == 1) : (Object) value(parts[i]);
                }
                return value(m.invoke(ship, values).toString());
            }
        }
        Due.yes("there is a call " + name, false);
        return 0;
    }

    private static int value(String told) {
        if (told.equals("ShipUnstopped.NONE")) {
            return ShipUnstopped.NONE;
        }
        return told.equals("true") ? 1 : told.equals("false") ? 0 : Integer.decode(told);
    }
}
