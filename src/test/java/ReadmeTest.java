import java.io.IOException;
import java.lang.reflect.Field;
import java.lang.reflect.Method;
import java.lang.reflect.Modifier;
import java.nio.file.Files;
import java.nio.file.Path;
import java.util.List;
import java.util.regex.Matcher;
import java.util.regex.Pattern;
import java.util.stream.Stream;

/** What README.md says of the class holds, and it leaves out no call, no constant and no test. */
public final class ReadmeTest {
    private static final Pattern EXAMPLE
        = Pattern.compile("server\\.(\\w+)\\((.*?)\\); +// (-?\\w+): .+");

    private static final Due DUE = new Due();

    public static void main(String[] args) throws Exception {
        Path root = Path.of(System.getProperty("project.root", "."));
        List<String> lines = Files.readAllLines(root.resolve("README.md"));
        exampleAnswersAsWritten(lines);
        faceIsTold(lines);
        useAndTestsAreTold(lines, root.resolve("src/test/java"));
        DUE.end("ReadmeTest");
    }

    private static void exampleAnswersAsWritten(List<String> lines) throws Exception {
        BindingServer server = new BindingServer();
        int calls = 0;
        for (String line : lines) {
            Matcher m = EXAMPLE.matcher(line);
            if (m.matches()) {
                DUE.is(line, answer(server, m.group(1), m.group(2)), due(m.group(3)));
                calls++;
            } else {
                DUE.isTrue("an answer is told: " + line, !line.startsWith("server."));
            }
        }
        DUE.isTrue("there is an example", calls > 0);
        DUE.isTrue("it keeps to the calls of one object", calls <= 512);
    }

    private static int answer(BindingServer server, String call, String arguments) throws Exception {
        for (Method m : BindingServer.class.getMethods()) {
            if (m.getName().equals(call)) {
                return (int) m.invoke(server, values(m.getParameterTypes(), arguments));
            }
        }
        throw new IllegalArgumentException(call);
    }

    private static Object[] values(Class<?>[] types, String arguments) {
        Object[] values = new Object[types.length];
        String[] told = arguments.split(", ");
        for (int i = 0; i < types.length; i++) {
            values[i] = types[i] == long.class
                ? (Object) Long.decode(told[i].replace("L", "")) : (Object) Integer.decode(told[i]);
        }
        return values;
    }

    private static int due(String told) throws Exception {
        return told.matches("[A-Z]+") ? BindingServer.class.getField(told).getInt(null)
            : Integer.parseInt(told);
    }

    private static void faceIsTold(List<String> lines) throws Exception {
        for (Method m : BindingServer.class.getDeclaredMethods()) {
            if (Modifier.isPublic(m.getModifiers())) {
                int count = m.getParameterCount();
                String arguments = count == 0 ? "" : "\\w+" + ", \\w+".repeat(count - 1);
                String row = "| `" + m.getName() + "(" + arguments + ")` | ";
                DUE.is("rows of " + m.getName(), countOf(lines, row), 1);
            }
        }
        for (Field f : BindingServer.class.getFields()) {
            DUE.is("rows of " + f.getName(),
                countOf(lines, "| `" + f.getName() + "` | " + f.getInt(null) + " | "), 1);
        }
    }

    private static int countOf(List<String> lines, String row) {
        Pattern begin = Pattern.compile(row.replace("|", "\\|").replace("(", "\\(").replace(")", "\\)"));
        int count = 0;
        for (String line : lines) {
            count += begin.matcher(line).lookingAt() ? 1 : 0;
        }
        return count;
    }

    private static void useAndTestsAreTold(List<String> lines, Path tests) throws IOException {
        String all = String.join("\n", lines);
        DUE.isTrue("the calls of an object", all.contains("at most 512 calls"));
        DUE.isTrue("how the tests are run", lines.contains(".ci/run"));
        try (Stream<Path> files = Files.list(tests)) {
            for (Path file : files.toList()) {
                String name = file.getFileName().toString().replace(".java", "");
                DUE.isTrue(name + " is told", all.contains("`" + name + "`"));
            }
        }
    }
}
