import java.io.IOException;
import java.lang.reflect.Method;
import java.lang.reflect.Modifier;
import java.nio.file.Files;
import java.nio.file.Path;
import java.util.Map;
import java.util.regex.Matcher;
import java.util.regex.Pattern;

/** README.md must not mislead: its example answers what stands beside each line, and its table has every call. */
public final class ReadmeTest extends DeskTest {
    private static final Pattern EXAMPLE_LINE = Pattern.compile("(?m)^desk\\.(.+);\\s+// (-?\\w+)");
    private static final Map<String, Integer> CONSTANTS = Map.of("NONE", NONE, "FULL", FULL, "REFUSED", REFUSED,
            "OPEN", 0, "CLOSE", 1, "DECLARE", 2, "USE", 3);

    private static int number(String word) {
        return CONSTANTS.containsKey(word) ? CONSTANTS.get(word) : Integer.parseInt(word);
    }

    private static String withNumbers(String call) {
        return Pattern.compile("RenameDesk\\.(\\w+)").matcher(call)
                .replaceAll(constant -> "" + number(constant.group(1)));
    }

    private static void example(String readme) {
        RenameDesk desk = new RenameDesk();
        Matcher line = EXAMPLE_LINE.matcher(readme);
        int lines = 0;
        while (line.find()) {
            due("the example of README.md", line.group(1), ask(desk, withNumbers(line.group(1))),
                    number(line.group(2)));
            lines++;
        }
        due("the example of README.md", "whether it has lines", lines > 0, true);
    }

    private static void table(String readme) {
        for (Method method : RenameDesk.class.getDeclaredMethods()) {
            if (Modifier.isPublic(method.getModifiers())) {
                boolean told = Pattern.compile("(?m)^\\|.*`" + method.getName() + "\\(.*\\|.*\\|$").matcher(readme).find();
                due("the table of README.md", "whether it has " + method.getName(), told, true);
            }
        }
    }

    public static void main(String[] args) throws IOException {
        String readme = Files.readString(Path.of("README.md"));
        example(readme);
        table(readme);
        end();
    }
}
