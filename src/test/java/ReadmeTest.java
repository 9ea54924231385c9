import java.io.IOException;
import java.lang.reflect.Method;
import java.lang.reflect.Modifier;
import java.nio.file.DirectoryStream;
import java.nio.file.Files;
import java.nio.file.Path;
import java.util.Arrays;
import java.util.HashMap;
import java.util.Map;
import java.util.regex.Matcher;
import java.util.regex.Pattern;

/** README.md names every call and test, and its examples answer what stands beside them. */
public final class ReadmeTest {
    private static final Due due = new Due();
    private static final Pattern BLOCK = Pattern.compile("(?s)```java\n(.*?)```");
    private static final Pattern MADE = Pattern.compile("SeamCell (\\w+) = new SeamCell\\(\\);");
    private static final Pattern CALL = Pattern.compile("(\\w+)\\.(\\w+)\\(([-\\d, ]*)\\); *// (-?\\d+)(: .*)?");

    public static void main(String[] args) throws IOException, ReflectiveOperationException {
        String text = Files.readString(Path.of("README.md"));
        namesEveryCall(text);
        namesEveryTest(text);
        int blocks = 0;
        Matcher block = BLOCK.matcher(text);
        while (block.find()) {
            example(block.group(1));
            blocks++;
        }
        due.is(4, blocks, "how many examples, one for each part");
        due.end();
    }

    private static void namesEveryCall(String text) {
        for (Method method : SeamCell.class.getDeclaredMethods()) {
            if (!Modifier.isPublic(method.getModifiers())) continue;
            Matcher row = Pattern.compile("(?m)^\\| `" + method.getName() + "\\(([^)]*)\\)` \\|").matcher(text);
            boolean found = row.find();
            due.holds(found, "README.md does not name " + method.getName());
            String takes = found ? row.group(1) : "";
            due.is(method.getParameterCount(), takes.isEmpty() ? 0 : takes.split(",").length, method.getName() + " takes");
        }
    }

    private static void namesEveryTest(String text) throws IOException {
        try (DirectoryStream<Path> tests = Files.newDirectoryStream(Path.of("src/test/java"), "*Test.java")) {
            for (Path test : tests) {
                String name = test.getFileName().toString().replace(".java", "");
                due.holds(text.contains("`" + name + "`"), "README.md does not name " + name);
            }
        }
    }

    /** Each line makes an object or is a call with its answer. */
    private static void example(String lines) throws ReflectiveOperationException {
        Map<String, SeamCell> objects = new HashMap<>();
        for (String line : lines.split("\n")) {
            Matcher made = MADE.matcher(line), call = CALL.matcher(line);
            if (made.matches()) {
                objects.put(made.group(1), new SeamCell());
            } else if (call.matches() && objects.containsKey(call.group(1))) {
                SeamCell object = objects.get(call.group(1));
                due.is(Integer.parseInt(call.group(4)), answer(object, call.group(2), call.group(3)), line);
            } else {
                due.holds(false, "no call with its answer: " + line);
            }
        }
    }

    private static int answer(SeamCell object, String name, String numbers) throws ReflectiveOperationException {
        String[] each = numbers.isEmpty() ? new String[0] : numbers.split(", ");
        Class<?>[] types = new Class<?>[each.length];
        Arrays.fill(types, int.class);
        Object[] values = Arrays.stream(each).map(Integer::valueOf).toArray();
        return (Integer) SeamCell.class.getMethod(name, types).invoke(object, values);
    }
}
