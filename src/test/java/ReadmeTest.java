import java.io.IOException;
import java.lang.reflect.Method;
import java.lang.reflect.Modifier;
import java.net.URL;
import java.net.URLClassLoader;
import java.nio.file.Files;
import java.nio.file.Path;
import java.util.ArrayList;
import java.util.Arrays;
import java.util.List;
import java.util.regex.Matcher;
import java.util.regex.Pattern;
import javax.tools.ToolProvider;

/** The example in README.md answers what its comments say; its table has the whole face. */
public final class ReadmeTest {
    private static final Pattern ANSWER =
            Pattern.compile("\\w+ (\\w+) = .*; *// (-?\\d+|true|false): .*");
    private static final Pattern EXCEPTION = Pattern.compile("\\w+Exception");

    public static void main(String[] args) throws IOException, ReflectiveOperationException {
        List<String> readme = Files.readAllLines(Path.of("README.md"));
        example(readme);
        table(readme);
        Checks.end("ReadmeTest");
    }

    private static void example(List<String> readme) throws IOException, ReflectiveOperationException {
        List<String> lines = readme.subList(readme.indexOf("```java") + 1, readme.size());
        lines = lines.subList(0, lines.indexOf("```"));
        List<String> names = new ArrayList<>();
        List<String> due = new ArrayList<>();
        for (String line : lines) {
            Matcher answer = ANSWER.matcher(line);
            if (answer.matches()) {
                names.add(answer.group(1));
                due.add(answer.group(2));
            }
        }
        Checks.due("answers in the example", true, () -> names.size() >= 14);
        Object[] got = answers(lines, names);
        for (int i = 0; i < names.size(); i++) {
            Checks.compare("README.md: " + names.get(i), due.get(i), String.valueOf(got[i]));
        }
    }

    private static Object[] answers(List<String> lines, List<String> names)
            throws IOException, ReflectiveOperationException {
        Path folder = Files.createTempDirectory("readme");
        Path source = folder.resolve("ReadmeExample.java");
        Path compiled = folder.resolve("ReadmeExample.class");
        try {
            Files.writeString(source, "public final class ReadmeExample {\n"
                    + "public static Object[] answers() {\n" + String.join("\n", lines)
                    + "\nreturn new Object[] {" + String.join(", ", names) + "};\n}\n}\n");
            int code = ToolProvider.getSystemJavaCompiler().run(null, null, null,
                    "-cp", System.getProperty("java.class.path"), "-d", folder.toString(),
                    source.toString());
            Checks.due("the example compiles", 0, () -> code);
            URL[] place = {folder.toUri().toURL()};
            try (URLClassLoader loader = new URLClassLoader(place)) {
                return (Object[]) loader.loadClass("ReadmeExample").getMethod("answers").invoke(null);
            }
        } finally {
            for (Path file : new Path[] {source, compiled, folder}) {
                Files.deleteIfExists(file);
            }
        }
    }

    private static void table(List<String> readme) {
        int methods = 0;
        for (Method method : LegalRows.class.getDeclaredMethods()) {
            if (Modifier.isPublic(method.getModifiers())) {
                methods++;
                String row = rowOf(readme, method);
                Checks.compare("README.md: " + method.getName(),
                        exceptions(Arrays.toString(method.getExceptionTypes())), exceptions(row));
            }
        }
        int found = methods;
        Checks.due("methods in the table", 14, () -> found);
    }

    private static String rowOf(List<String> readme, Method method) {
        List<String> parameters = new ArrayList<>();
        for (Class<?> type : method.getParameterTypes()) {
            parameters.add(type + " \\w+");
        }
        Pattern row = Pattern.compile("\\| `" + method.getReturnType() + " " + method.getName()
                + "\\(" + String.join(", ", parameters) + "\\)` \\| .*");
        for (String line : readme) {
            if (row.matcher(line).matches()) {
                return line;
            }
        }
        return "NoRowException";
    }

    private static String exceptions(String text) {
        List<String> all = new ArrayList<>();
        Matcher exception = EXCEPTION.matcher(text);
        while (exception.find()) {
            all.add(exception.group());
        }
        return all.toString();
    }
}
