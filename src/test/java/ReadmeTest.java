import java.io.IOException;
import java.io.UncheckedIOException;
import java.lang.reflect.Method;
import java.lang.reflect.Modifier;
import java.nio.file.DirectoryStream;
import java.nio.file.Files;
import java.nio.file.Path;
import java.util.regex.Matcher;
import java.util.regex.Pattern;

/** README.md tells answers that are so, and names every call and every test. */
public final class ReadmeTest {
    private static final Check CHECK = new Check("ReadmeTest");
    private static final Pattern CALL = Pattern.compile("x\\.(\\w+)\\(([^)]*)\\);\\s*// (-?\\d+)\\b.*");

    public static void main(String[] args) throws Exception {
        String page = read(Path.of("README.md"));
        int examples = 0;
        BorderProofs x = null;
        for (String line : page.split("\n")) {
            if (line.equals("BorderProofs x = new BorderProofs();")) {
                x = new BorderProofs();
                examples++;
            } else if (line.startsWith("x.")) {
                Matcher call = CALL.matcher(line);
                dueSo(line + " tells its answer", x != null && call.matches());
                CHECK.due(line, answer(x, call.group(1), call.group(2)), Integer.parseInt(call.group(3)));
            }
        }
        CHECK.due("examples", examples, 3);
        namesEachCall(page);
        namesEachTest(page);
        CHECK.finish();
    }

    private static void dueSo(String what, boolean so) {
        CHECK.due(what, so ? 1 : 0, 1);
    }

    private static String read(Path path) {
        try {
            return Files.readString(path);
        } catch (IOException noPage) {
            throw new UncheckedIOException(noPage);
        }
    }

    private static Method method(String name) {
        for (Method method : BorderProofs.class.getDeclaredMethods()) {
            if (Modifier.isPublic(method.getModifiers()) && method.getName().equals(name)) {
                return method;
            }
        }
        throw new IllegalArgumentException(name);
    }

    private static int answer(BorderProofs x, String name, String told) throws ReflectiveOperationException {
        Method method = method(name);
        String[] numbers = told.isEmpty() ? new String[0] : told.split(", ");
        Object[] arguments = new Object[numbers.length];
        for (int i = 0; i < numbers.length; i++) {
            boolean isLong = method.getParameterTypes()[i] == long.class;
            long number = Long.parseLong(numbers[i].replace("L", ""));
            arguments[i] = isLong ? (Object) number : (Object) Math.toIntExact(number);
        }
        return (Integer) method.invoke(x, arguments);
    }

    private static void namesEachCall(String page) {
        for (Method method : BorderProofs.class.getDeclaredMethods()) {
            if (Modifier.isPublic(method.getModifiers())) {
                dueSo("a row of the table for " + method.getName(), page.contains("| `" + method.getName() + "("));
            }
        }
    }

    private static void namesEachTest(String page) throws IOException {
        try (DirectoryStream<Path> tests = Files.newDirectoryStream(Path.of("src/test/java"), "*Test.java")) {
            for (Path test : tests) {
                String name = test.getFileName().toString().replace(".java", "");
                dueSo("the test " + name, page.contains("`" + name + "`"));
            }
        }
    }
}
