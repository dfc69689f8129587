import java.io.IOException;
import java.lang.reflect.Method;
import java.nio.file.Files;
import java.nio.file.Path;
import java.util.ArrayList;
import java.util.Arrays;
import java.util.List;
import java.util.Set;
import java.util.TreeSet;
import java.util.regex.Matcher;
import java.util.regex.Pattern;

/** Makes the calls of the example in README.md, each of which has its answer behind it. */
public final class ReadmeTest {
    private static final Pattern MAKING = Pattern.compile("FlowTimeDesk desk = new FlowTimeDesk\\((-?\\d+)\\);");
    private static final Pattern CALL = Pattern.compile("desk\\.(\\w+)\\(([-\\d, ]*)\\); +// ([-\\w]+)(: .+)?");

    private static final Checks checks = new Checks();
    private static final Set<String> shown = new TreeSet<>();

    public static void main(String[] args) throws IOException, ReflectiveOperationException {
        FlowTimeDesk desk = null;
        for (String line : example()) {
            Matcher making = MAKING.matcher(line);
            Matcher call = CALL.matcher(line);
            if (making.matches()) {
                desk = new FlowTimeDesk(Integer.parseInt(making.group(1)));
            } else if (call.matches()) {
                makeCall(line, desk, call);
            } else {
                checks.due("a call with its answer: " + line, true, false);
            }
        }
        for (Method method : FlowTimeDesk.class.getMethods()) {
            if (method.getDeclaringClass() == FlowTimeDesk.class) {
                checks.due("README.md shows " + method.getName(), true, shown.contains(method.getName()));
            }
        }
        checks.close("ReadmeTest");
    }

    private static List<String> example() throws IOException {
        List<String> lines = new ArrayList<>();
        boolean inside = false;
        for (String line : Files.readAllLines(Path.of("README.md"))) {
            if (line.startsWith("```")) {
                inside = line.equals("```java");
            } else if (inside) {
                lines.add(line);
            }
        }
        return lines;
    }

    private static void makeCall(String line, FlowTimeDesk desk, Matcher call) throws ReflectiveOperationException {
        Object[] given = Arrays.stream(call.group(2).split(", ")).filter(s -> !s.isEmpty()).map(Integer::valueOf).toArray();
        Class<?>[] types = new Class<?>[given.length];
        Arrays.fill(types, int.class);
        Object got = FlowTimeDesk.class.getMethod(call.group(1), types).invoke(desk, given);
        shown.add(call.group(1));
        if (got instanceof Boolean answer) {
            // Any other word than these two would be taken for false.
            checks.due("true or false: " + line, true, call.group(3).matches("true|false"));
            checks.due(line, Boolean.parseBoolean(call.group(3)), answer);
        } else {
            checks.due(line, numberOf(call.group(3)), (Integer) got);
        }
    }

    private static int numberOf(String written) {
        return switch (written) {
            case "BAD" -> FlowTimeDesk.BAD;
            case "FULL" -> FlowTimeDesk.FULL;
            case "NONE" -> FlowTimeDesk.NONE;
            default -> Integer.parseInt(written);
        };
    }
}
