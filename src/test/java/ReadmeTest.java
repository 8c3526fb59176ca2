import java.lang.reflect.Method;
import java.lang.reflect.Modifier;
import java.nio.file.Files;
import java.nio.file.Path;
import java.util.List;
import java.util.regex.Matcher;
import java.util.regex.Pattern;
import java.util.stream.Stream;

/** README.md: its example answers what it says there, and it names every call and every test. */
public final class ReadmeTest {
    private static final Path README = Path.of("README.md"), TESTS = Path.of("src/test/java");
    private static final Pattern SIGNS = Pattern.compile("String signs = \"([^\"]*)\";");
    private static final Pattern CALL = Pattern.compile("(?m)^x\\.(\\w+)\\(([\\d, -]*)\\); *// (-?\\d+)");

    public static void main(String[] args) throws Exception {
        String all = Files.readString(README);
        Matcher block = Pattern.compile("(?s)```java\n(.*?)```").matcher(all);
        Check.holds("an example", block.find());
        example(block.group(1));
        for (Method method : BackCourt.class.getDeclaredMethods()) {
            boolean isFace = Modifier.isPublic(method.getModifiers());
            Check.holds("names " + method.getName(), !isFace || all.contains("`" + method.getName() + "`"));
        }
        try (Stream<Path> files = Files.list(TESTS)) {
            for (Path file : (Iterable<Path>) files::iterator) {
                String name = file.getFileName().toString().replace(".java", "");
                Check.holds("names " + name, !name.endsWith("Test") || all.contains("| " + name + " |"));
            }
        }
        Check.end();
    }

    private static void example(String block) throws Exception {
        Matcher signs = SIGNS.matcher(block);
        Check.holds("a text", signs.find());
        BackCourt x = new BackCourt();
        Check.write(x, 0, signs.group(1));
        List<String> lines = block.lines().filter(line -> line.startsWith("x.") && line.contains("//")).toList();
        int asked = 0;
        Matcher call = CALL.matcher(block);
        while (call.find()) {
            String[] numbers = call.group(2).isEmpty() ? new String[0] : call.group(2).split(", ");
            Class<?>[] types = new Class<?>[numbers.length];
            Object[] values = new Object[numbers.length];
            for (int k = 0; k < numbers.length; k++) {
                types[k] = int.class;
                values[k] = Integer.valueOf(numbers[k]);
            }
            Number got = (Number) BackCourt.class.getMethod(call.group(1), types).invoke(x, values);
            Check.due(call.group(), got.longValue(), Long.parseLong(call.group(3)));
            asked++;
        }
        Check.due("every line that tells an answer was asked", asked, lines.size());
        Check.holds("there are such lines", asked > 0);
    }
}
