import java.io.IOException;
import java.lang.reflect.Constructor;
import java.lang.reflect.Field;
import java.lang.reflect.Method;
import java.lang.reflect.Modifier;
import java.nio.file.Files;
import java.nio.file.Path;
import java.util.Arrays;
import java.util.TreeSet;
import java.util.regex.Matcher;
import java.util.regex.Pattern;

/** The form of the program: the face, and those rules of LANGUAGE.md that can be seen plainly. */
public final class FormTest {
    private static final Due DUE = new Due("form");

    public static void main(String[] args) throws IOException {
        face();
        nested();
        source();
        DUE.close();
    }

    private static void face() {
        DUE.sentence("public final class ClassHouse { public ClassHouse(); public int feed(int a, int b, int c, int d, int e); public int end(int n); public int program();"
            + " public int heap(int n); public int input(int a, int b, int c); public int start(); public int step(int n); public int result(); public int output(int i);"
            + " public int count(int what); }");
        TreeSet<String> seen = new TreeSet<>();
        for (Method method : ClassHouse.class.getDeclaredMethods()) {
            if (!Modifier.isPrivate(method.getModifiers())) {
                seen.add(method.getReturnType() + " " + method.getName() + Arrays.toString(method.getParameterTypes()));
                DUE.is("public: " + method.getName(), method.getModifiers(), Modifier.PUBLIC);
            }
        }
        TreeSet<String> wanted = new TreeSet<>(Arrays.asList("int feed[int, int, int, int, int]", "int end[int]", "int program[]",
            "int heap[int]", "int input[int, int, int]", "int start[]", "int step[int]", "int result[]", "int output[int]", "int count[int]"));
        DUE.is("the face is " + seen, seen.equals(wanted) ? 1 : 0, 1);
        Constructor<?>[] constructors = ClassHouse.class.getDeclaredConstructors();
        DUE.is("constructors", constructors.length, 1);
        DUE.is("of no parameters", constructors[0].getParameterCount(), 0);
        for (Field field : ClassHouse.class.getDeclaredFields()) {
            DUE.is("private: " + field.getName(), Modifier.isPrivate(field.getModifiers()) ? 1 : 0, 1);
        }
        DUE.is("public final", ClassHouse.class.getModifiers(), Modifier.PUBLIC | Modifier.FINAL);
    }

    private static void nested() {
        Class<?>[] classes = ClassHouse.class.getDeclaredClasses();
        DUE.is("at most twelve classes", classes.length + 1 <= 12 ? 1 : 0, 1);
        for (Class<?> inner : classes) {
            DUE.is("static: " + inner, Modifier.isStatic(inner.getModifiers()) ? 1 : 0, 1);
            int fields = 0;
            for (Field field : inner.getDeclaredFields()) {
                int modifiers = field.getModifiers();
                if (Modifier.isStatic(modifiers)) {
                    DUE.is("final: " + field, Modifier.isFinal(modifiers) ? 1 : 0, 1);
                } else {
                    fields++;
                }
            }
            DUE.is("at most twenty fields: " + inner, fields <= 20 ? 1 : 0, 1);
            for (Method method : inner.getDeclaredMethods()) {
                DUE.is("at most seven parameters: " + method, method.getParameterCount() <= 7 ? 1 : 0, 1);
            }
        }
    }

    private static void source() throws IOException {
        String text = Files.readString(Path.of("src/main/java/ClassHouse.java"));
        String plain = text.replaceAll("\"[^\"\n]*\"", "\"\"").replaceAll("(?s)/\\*.*?\\*/", "").replaceAll("//[^\n]*", "");
        for (String word : new String[] {"throw", "try", "catch", "finally", "synchronized", "assert", "instanceof", "Exact", "package"}) {
            DUE.is("no " + word, Pattern.compile("\\b" + word + "\\b").matcher(plain).find() ? 1 : 0, 0);
        }
        DUE.is("no ->", plain.contains("->") ? 1 : 0, 0);
        DUE.is("no ::", plain.contains("::") ? 1 : 0, 0);
        Matcher imports = Pattern.compile("import ([^;]*);").matcher(plain);
        while (imports.find()) {
            DUE.is("import of " + imports.group(1), imports.group(1).equals("java.util.Arrays") ? 1 : 0, 1);
        }
        int from = 0;
        String[] lines = text.split("\n");
        for (int i = 0; i < lines.length; i++) {
            if (lines[i].matches("( {4}| {8})[A-Za-z].*\\) \\{")) {
                from = i;
            }
            if (lines[i].matches("( {4}| {8})\\}")) {
                DUE.is("lines of what ends in line " + (i + 1), i - from <= 60 || lines[i].equals("    }") ? 1 : 0, 1);
            }
        }
    }
}
