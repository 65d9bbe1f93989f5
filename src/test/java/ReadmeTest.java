import java.io.File;
import java.lang.reflect.Field;
import java.lang.reflect.Method;
import java.lang.reflect.Modifier;
import java.nio.file.Files;
import java.nio.file.Path;
import java.util.Arrays;
import java.util.regex.Matcher;
import java.util.regex.Pattern;

/** README.md: its example answers what it says, and every call, refusal and test is told of. */
public final class ReadmeTest {
    private static final Pattern TEXT = Pattern.compile("String text = \"([^\"]*)\";");
    private static final Pattern CALL = Pattern.compile("(?m)^x\\.(\\w+)\\(([^)]*)\\); *// (-?\\d+)");

    public static void main(String[] args) throws Exception {
        Check check = new Check("ReadmeTest");
        String page = Files.readString(Path.of("README.md"));
        example(check, page);
        calls(check, page);
        constants(check, page);
        tests(check, page);
        check.end();
    }

    private static void example(Check check, String page) {
        SlotMesh x = new SlotMesh();
        Matcher text = TEXT.matcher(page);
        check.due("a text in the example", text.find());
        Check.write(x, text.group(1));
        Matcher call = CALL.matcher(page);
        int played = 0;
        while (call.find()) {
            played++;
            int[] numbers = call.group(2).isEmpty() ? new int[0]
                : Arrays.stream(call.group(2).split(", *")).mapToInt(Integer::parseInt).toArray();
            check.due(call.group(), Calls.answer(x, call.group(1), numbers), Integer.parseInt(call.group(3)));
        }
        long lines = page.lines().filter(line -> line.startsWith("x.")).count();
        check.due("calls played", played, lines);
        check.due("some calls in the example", played > 0);
    }

    private static void calls(Check check, String page) {
        for (Method method : SlotMesh.class.getDeclaredMethods()) {
            if (Modifier.isPublic(method.getModifiers())) {
                Matcher row = Pattern.compile("(?m)^\\| `" + method.getName() + "\\(([^)]*)\\)` \\|").matcher(page);
                check.due(method.getName() + " has a row", row.find());
                int parameters = row.group(1).isEmpty() ? 0 : row.group(1).split(",").length;
                check.due(method.getName() + "'s parameters", parameters, method.getParameterCount());
            }
        }
    }

    private static void constants(Check check, String page) throws Exception {
        for (Field field : SlotMesh.class.getDeclaredFields()) {
            if (Modifier.isPublic(field.getModifiers())) {
                int value = field.getInt(null);
                check.due(field.getName() + " is told of", page.contains("| `" + field.getName() + "` | " + value + " |")
                    || page.contains("`" + field.getName() + "` (" + value + ")"));
            }
        }
    }

    private static void tests(Check check, String page) {
        String[] files = new File("src/test/java").list((folder, name) -> name.endsWith("Test.java"));
        check.due("tests are found", files != null && files.length > 0);
        for (String file : files == null ? new String[0] : files) {
            String name = file.substring(0, file.length() - ".java".length());
            check.due(name + " is told of", page.contains("`" + name + "`"));
        }
    }
}
