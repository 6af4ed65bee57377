import java.io.IOException;
import java.lang.reflect.Method;
import java.lang.reflect.Modifier;
import java.nio.file.Files;
import java.nio.file.Path;
import java.util.List;
import java.util.Set;
import java.util.TreeSet;
import java.util.regex.Matcher;
import java.util.regex.Pattern;
import java.util.stream.Stream;

/** README.md is true: its calls answer what stands behind them, and it names all calls and tests. */
public final class ReadmeTest {
    private static final Path README = Path.of("README.md");
    private static final Path TESTS = Path.of("src/test/java");
    private static final Pattern CALL =
        Pattern.compile("bench\\.(\\w+)\\((.*?)\\);\\s*// (-?\\d+|true|false)(:.*)?");

    public static void main(String[] args) throws IOException, ReflectiveOperationException {
        example();
        tests();
        Due.end("ReadmeTest");
    }

    private static Method faceMethod(String name) {
        for (Method m : CometBench.class.getMethods()) {
            if (m.getName().equals(name) && m.getDeclaringClass() == CometBench.class) {
                return m;
            }
        }
        throw new IllegalStateException("README.md calls " + name + ", which is not there");
    }

    private static Object[] values(Method m, String told) {
        String[] parts = told.isEmpty() ? new String[0] : told.split(", ");
        Object[] values = new Object[parts.length];
        for (int i = 0; i < parts.length; i++) {
            boolean isFlag = m.getParameterTypes()[i] == boolean.class;
            values[i] = isFlag ? (Object) Boolean.valueOf(parts[i]) : Integer.valueOf(parts[i]);
        }
        return values;
    }

    private static void example() throws IOException, ReflectiveOperationException {
        CometBench bench = new CometBench();
        Set<String> shown = new TreeSet<>();
        for (String line : Files.readAllLines(README)) {
            if (!line.startsWith("bench.")) {
                continue;
            }
            Matcher call = CALL.matcher(line);
            Due.same("README.md tells an answer: " + line, call.matches(), true);
            if (call.matches()) {
                Method m = faceMethod(call.group(1));
                Object got = m.invoke(bench, values(m, call.group(2)));
                Due.same(line + " answered " + got, got.toString().equals(call.group(3)), true);
                shown.add(m.getName());
            }
        }
        for (Method m : CometBench.class.getDeclaredMethods()) {
            if (Modifier.isPublic(m.getModifiers())) {
                Due.same("README.md shows " + m.getName(), shown.contains(m.getName()), true);
            }
        }
    }

    private static void tests() throws IOException {
        String text = Files.readString(README);
        List<Path> files;
        try (Stream<Path> found = Files.list(TESTS)) {
            files = found.toList();
        }
        for (Path file : files) {
            String name = file.getFileName().toString().replace(".java", "");
            Due.same("README.md names " + name, text.contains("`" + name + "`"), true);
        }
        Matcher named = Pattern.compile("`(\\w+Test)`").matcher(text);
        while (named.find()) {
            Path file = TESTS.resolve(named.group(1) + ".java");
            Due.same("README.md names " + file + ", which is there", Files.exists(file), true);
        }
    }
}
