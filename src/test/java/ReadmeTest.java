import java.io.IOException;
import java.lang.reflect.Method;
import java.nio.file.Files;
import java.nio.file.Path;
import java.util.regex.Matcher;
import java.util.regex.Pattern;

/** What README.md says of the class and of the tests is so: its example's answers, and the names it names. */
public final class ReadmeTest {
    private static final Due DUE = new Due("README");
    private static final Pattern CALL = Pattern.compile("x\\.(\\w+)\\(([^)]*)\\);( // (-?\\d+))?");
    private static final Path TESTS = Path.of("src/test/java");

    public static void main(String[] args) throws IOException, ReflectiveOperationException {
        String text = Files.readString(Path.of("README.md"));
        example(text);
        classesInside(text);
        tests(text);
        DUE.close();
    }

    private static void example(String text) throws ReflectiveOperationException {
        ClassHouse x = new ClassHouse();
        Matcher calls = CALL.matcher(text);
        int made = 0;
        while (calls.find()) {
            DUE.is("an answer stands behind " + calls.group(), calls.group(4) == null ? 0 : 1, 1);
            if (calls.group(4) != null) {
                DUE.is(calls.group(), answer(x, calls.group(1), calls.group(2)), Integer.parseInt(calls.group(4)));
            }
            made++;
        }
        DUE.is("calls of the example", made > 0 ? 1 : 0, 1);
        for (Method method : ClassHouse.class.getMethods()) {
            if (method.getDeclaringClass() == ClassHouse.class) {
                DUE.is("the example shows " + method.getName(), text.contains("x." + method.getName() + "(") ? 1 : 0, 1);
            }
        }
    }

    private static int answer(ClassHouse x, String name, String told) throws ReflectiveOperationException {
        String[] parts = told.isEmpty() ? new String[0] : told.split(", ");
        Object[] numbers = new Object[parts.length];
        Class<?>[] types = new Class<?>[parts.length];
        for (int i = 0; i < parts.length; i++) {
            numbers[i] = Integer.decode(parts[i]);
            types[i] = int.class;
        }
        return (Integer) ClassHouse.class.getMethod(name, types).invoke(x, numbers);
    }

    private static void classesInside(String text) {
        for (Class<?> inner : ClassHouse.class.getDeclaredClasses()) {
            DUE.is("README.md names " + inner.getSimpleName(), text.contains("`" + inner.getSimpleName() + "`") ? 1 : 0, 1);
        }
    }

    private static void tests(String text) throws IOException {
        Matcher names = Pattern.compile("\\b(\\w+Test)\\b").matcher(text);
        while (names.find()) {
            DUE.is("there is " + names.group(), Files.exists(TESTS.resolve(names.group() + ".java")) ? 1 : 0, 1);
        }
        try (var files = Files.newDirectoryStream(TESTS, "*Test.java")) {
            for (Path file : files) {
                String name = file.getFileName().toString().replace(".java", "");
                boolean told = name.matches("(P\\d\\d|Edge)\\w+") || text.contains("`" + name + "`");
                DUE.is("README.md tells of " + name, told ? 1 : 0, 1);
            }
        }
    }
}
