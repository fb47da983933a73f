import java.io.IOException;
import java.lang.reflect.Constructor;
import java.lang.reflect.Field;
import java.lang.reflect.Method;
import java.lang.reflect.Modifier;
import java.nio.file.Files;
import java.nio.file.Path;
import java.util.Arrays;
import java.util.HashSet;
import java.util.List;
import java.util.Set;
import java.util.TreeSet;

/** The document's face, and what can be seen of the language rules: by reflection, and in the text of the program. */
final class FaceTest {
    private static final List<String> FACE = List.of(
        "int cls(int, boolean) IllegalArgumentException IllegalStateException",
        "int field(int, int, boolean) IllegalArgumentException IllegalStateException",
        "int method(int, int) IllegalArgumentException IllegalStateException",
        "boolean feed(int)",
        "void code(int, int, int, int) IllegalArgumentException IllegalStateException",
        "int handler(int, int, int, int, int) IllegalArgumentException IllegalStateException",
        "int verify(int) IllegalArgumentException IllegalStateException UnsupportedOperationException",
        "int about(int, int) IndexOutOfBoundsException",
        "int codeAt(int, int) IndexOutOfBoundsException",
        "int frameAt(int, int) IndexOutOfBoundsException",
        "int handlerAt(int, int, int) IndexOutOfBoundsException",
        "int typeAt(int, int, int) IndexOutOfBoundsException",
        "long run(int, long, long, int) IllegalArgumentException IllegalStateException UnsupportedOperationException",
        "int end(int)",
        "int count(int)");

    public static void main(String[] args) throws IOException {
        face();
        classes();
        text(Files.readAllLines(Path.of(args.length > 0 ? args[0] : "src/main/java/MapFramer.java")));
        Check.end("FaceTest");
    }

    private static void face() {
        Set<String> due = new TreeSet<>(FACE);
        Set<String> got = new TreeSet<>();
        Set<String> names = new HashSet<>();
        for (Method method : MapFramer.class.getDeclaredMethods()) {
            if (Modifier.isPublic(method.getModifiers())) {
                got.add(written(method));
                names.add(method.getName());
            } else {
                Check.same("private: " + method, Modifier.isPrivate(method.getModifiers()), true);
            }
        }
        Check.same("the face", got, due);
        Check.same("final", Modifier.isFinal(MapFramer.class.getModifiers()), true);
        Check.same("public", Modifier.isPublic(MapFramer.class.getModifiers()), true);
        for (Constructor<?> constructor : MapFramer.class.getDeclaredConstructors()) {
            Check.same("constructor", constructor.toString(), "public MapFramer()");
        }
        for (Field field : MapFramer.class.getDeclaredFields()) {
            Check.same("private: " + field, Modifier.isPrivate(field.getModifiers()), !field.getName().equals("NONE"));
        }
        for (Class<?> inside : MapFramer.class.getDeclaredClasses()) {
            for (Method method : inside.getDeclaredMethods()) {
                Check.same("no public name: " + method, names.contains(method.getName()), false);
            }
        }
    }

    private static String written(Method method) {
        StringBuilder text = new StringBuilder();
        text.append(method.getReturnType()).append(' ').append(method.getName()).append('(');
        String parameters = Arrays.toString(method.getParameterTypes());
        text.append(parameters, 1, parameters.length() - 1).append(')');
        for (Class<?> thrown : method.getExceptionTypes()) {
            text.append(' ').append(thrown.getSimpleName());
        }
        return text.toString();
    }

    private static void classes() {
        Class<?>[] inside = MapFramer.class.getDeclaredClasses();
        Check.same("at most twelve classes", inside.length + 1 <= 12, true);
        for (Class<?> one : inside) {
            Check.same("static: " + one, Modifier.isStatic(one.getModifiers()), true);
            int fields = 0;
            for (Field field : one.getDeclaredFields()) {
                boolean isStatic = Modifier.isStatic(field.getModifiers());
                fields += isStatic ? 0 : 1;
                Check.same("final: " + field, !isStatic || Modifier.isFinal(field.getModifiers()), true);
            }
            Check.same("at most twenty fields: " + one, fields <= 20, true);
            for (Method method : one.getDeclaredMethods()) {
                Check.same("at most seven parameters: " + method, method.getParameterCount() <= 7, true);
            }
        }
    }

    private static void text(List<String> lines) {
        Set<String> imports = new TreeSet<>();
        int begun = 0;
        for (int k = 0; k < lines.size(); k++) {
            String line = lines.get(k).replaceAll("\"[^\"]*\"", "\"\"").replaceAll("//.*|/?\\*.*", "");
            if (line.startsWith("import ")) {
                imports.add(line);
            }
            String forbidden = "->|::|\\b(assert|finally|synchronized|try|catch|enum|record|package|double|float|System"
                + "\\.(out|err|nanoTime|currentTimeMillis|getenv)|Random|Thread|Object|Exact|println)\\b";
            Check.same("rules, line " + (k + 1) + ": " + line, line.matches(".*(" + forbidden + ").*"), false);
            Check.same("width, line " + (k + 1), lines.get(k).length() <= 120, true);
            if (line.matches(" {4,8}[a-zA-Z].*\\) *(throws .*)?\\{") && !line.trim().startsWith("if")) {
                begun = k;
            }
            if (line.matches(" {4,8}\\}")) {
                Check.same("at most sixty lines, to line " + (k + 1), k - begun <= 60 || line.startsWith("    }"), true);
            }
        }
        Check.same("imports", imports, List.of("import java.util.ArrayList;", "import java.util.Arrays;"));
    }
}
