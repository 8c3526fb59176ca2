import java.lang.reflect.Constructor;
import java.lang.reflect.Field;
import java.lang.reflect.Method;
import java.lang.reflect.Modifier;
import java.nio.file.Files;
import java.nio.file.Path;
import java.util.Arrays;
import java.util.List;
import java.util.Set;
import java.util.TreeSet;
import java.util.regex.Matcher;
import java.util.regex.Pattern;

/** The face of the document, and the rules of LANGUAGE.md that can be seen from outside or in the source's words. */
public final class LanguageTest {
    private static final Path SOURCE = Path.of("src/main/java/BackCourt.java");
    private static final Path DOCUMENT = Path.of("../shared/DOC.md");

    public static void main(String[] args) throws Exception {
        face();
        Set<String> names = new TreeSet<>();
        for (Method method : BackCourt.class.getDeclaredMethods()) {
            if (Modifier.isPublic(method.getModifiers())) {
                names.add(method.getName());
            }
        }
        Check.holds("some twelve classes", BackCourt.class.getDeclaredClasses().length <= 12);
        members(BackCourt.class, names);
        for (Class<?> inside : BackCourt.class.getDeclaredClasses()) {
            Check.holds(inside + " is static", Modifier.isStatic(inside.getModifiers()));
            Check.holds(inside + " is not public", (inside.getModifiers() & (Modifier.PUBLIC | Modifier.PROTECTED)) == 0);
            members(inside, names);
        }
        words();
        lengths();
        Check.end();
    }

    private static String plain(Class<?> type, String name, Class<?>[] parameters) {
        StringBuilder all = new StringBuilder(type + " " + name + "(");
        for (Class<?> parameter : parameters) {
            all.append(parameter).append(' ');
        }
        return all.append(")").toString();
    }

    private static void face() throws Exception {
        Set<String> want = new TreeSet<>();
        Matcher line = Pattern.compile("public (int|long) (\\w+)\\(([^)]*)\\);").matcher(Files.readString(DOCUMENT));
        while (line.find()) {
            int many = line.group(3).isEmpty() ? 0 : line.group(3).split(",").length;
            Class<?>[] ints = new Class<?>[many];
            Arrays.fill(ints, int.class);
            want.add(plain(line.group(1).equals("int") ? int.class : long.class, line.group(2), ints));
        }
        Set<String> got = new TreeSet<>();
        for (Method method : BackCourt.class.getDeclaredMethods()) {
            if (!Modifier.isPrivate(method.getModifiers())) {
                got.add(plain(method.getReturnType(), method.getName(), method.getParameterTypes()));
            }
        }
        Check.due("methods of the face", want.size(), 48);
        Check.holds("the face is " + got + ", due is " + want, got.equals(want));
        Set<String> constants = new TreeSet<>();
        for (Field field : BackCourt.class.getDeclaredFields()) {
            if (!Modifier.isPrivate(field.getModifiers())) {
                constants.add(field.getName());
            }
        }
        Check.holds("constants are " + constants, constants.equals(Set.of("BAD", "FULL", "FINDING", "STATE", "SPENT", "NONE")));
        Check.holds("public and final", Modifier.isFinal(BackCourt.class.getModifiers()) && Modifier.isPublic(BackCourt.class.getModifiers()));
        Constructor<?>[] made = BackCourt.class.getDeclaredConstructors();
        Check.holds("one constructor", made.length == 1 && made[0].getParameterCount() == 0 && Modifier.isPublic(made[0].getModifiers()));
    }

    private static void members(Class<?> type, Set<String> names) {
        int fields = 0;
        for (Field field : type.getDeclaredFields()) {
            boolean isStatic = Modifier.isStatic(field.getModifiers());
            Check.holds(type + " " + field.getName() + " is final, if static", !isStatic || Modifier.isFinal(field.getModifiers()));
            fields += isStatic ? 0 : 1;
        }
        Check.holds(type + " has some twenty fields", fields <= 20);
        for (Method method : type.getDeclaredMethods()) {
            Check.holds(method + " has seven parameters at most", method.getParameterCount() <= 7);
            boolean isFace = type == BackCourt.class && Modifier.isPublic(method.getModifiers());
            Check.holds(method + " bears no name of the face", isFace || !names.contains(method.getName()));
        }
    }

    private static void words() throws Exception {
        String code = Files.readString(SOURCE).replaceAll("(?s)/\\*.*?\\*/", " ").replaceAll("//[^\n]*", " ");
        String[] words = {"throw", "throws", "try", "catch", "synchronized", "assert", "import", "package", "lambda", "protected",
            "double", "float", "String", "native", "volatile", "transient", "random", "currentTimeMillis", "nanoTime", "Thread"};
        for (String word : words) {
            Check.holds("no " + word, !Pattern.compile("\\b" + word + "\\b").matcher(code).find());
        }
        Check.holds("no ->", !code.contains("->"));
        Check.holds("no ::", !code.contains("::"));
        Check.holds("no Exact", !code.contains("Exact"));
        Matcher library = Pattern.compile("\\b(Integer|Long|Math|System|Arrays)\\.(\\w+)").matcher(code);
        Set<String> listed = Set.of("Integer.bitCount", "Math.max", "Math.min", "System.arraycopy");
        while (library.find()) {
            Check.holds("the library: " + library.group(), listed.contains(library.group()));
        }
    }

    private static void lengths() throws Exception {
        List<String> lines = Files.readAllLines(SOURCE);
        Pattern head = Pattern.compile("^( {4}| {8})(?=\\S)[\\w<>\\[\\] ]+\\([^)]*\\) \\{$");
        int methods = 0;
        for (int from = 0; from < lines.size(); from++) {
            Matcher start = head.matcher(lines.get(from));
            if (start.matches() && !lines.get(from).matches(" +(if|for|while|switch|return) .*")) {
                int to = from;
                while (!lines.get(to).equals(start.group(1) + "}")) {
                    to++;
                }
                methods++;
                Check.holds(lines.get(from).trim() + " is short", to - from <= 60);
            }
        }
        Check.holds("methods are seen: " + methods, methods > 100);
    }
}
