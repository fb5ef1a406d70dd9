import java.io.IOException;
import java.lang.reflect.Constructor;
import java.lang.reflect.Field;
import java.lang.reflect.Member;
import java.lang.reflect.Method;
import java.lang.reflect.Modifier;
import java.nio.file.Files;
import java.nio.file.Path;
import java.util.ArrayList;
import java.util.List;
import java.util.Set;
import java.util.TreeSet;

/** The public face, and those rules of the language that can be seen from outside. */
public final class FaceTest {
    private static final Checks checks = new Checks();
    private static final Set<String> FACE = Set.of(
        "boolean type(char)", "int readType(int)", "int readTerm()", "int below(int,int)",
        "int same(int,int)", "int join(int,int,int)", "int meet(int,int,int)", "int size(int)",
        "int write(int)", "int charAt(int)", "int typeOf(int)", "boolean fits(int)",
        "boolean start()", "int step(int)", "int steps()", "int value()");

    public static void main(String[] args) throws IOException {
        members();
        classesInside();
        words();
        checks.end();
    }

    private static void members() {
        Class<?> face = BoundedSchemes.class;
        checks.due("public and final", Modifier.isPublic(face.getModifiers())
            && Modifier.isFinal(face.getModifiers()), true);
        Set<String> methods = new TreeSet<>();
        for (Method method : face.getDeclaredMethods()) {
            if (!Modifier.isPrivate(method.getModifiers())) {
                methods.add(told(method));
            }
        }
        checks.due("the methods", methods.toString(), new TreeSet<>(FACE).toString());
        List<String> fields = new ArrayList<>();
        for (Field field : face.getDeclaredFields()) {
            if (!Modifier.isPrivate(field.getModifiers())) {
                fields.add(field.getName());
            }
            if (Modifier.isStatic(field.getModifiers())) {
                checks.due(field + " is final", Modifier.isFinal(field.getModifiers()), true);
            }
        }
        checks.due("the constants", fields.toString(), "[NONE, BAD, FULL]");
        Constructor<?>[] constructors = face.getDeclaredConstructors();
        checks.due("constructors", constructors.length, 1);
        checks.due("a public one", Modifier.isPublic(constructors[0].getModifiers()), true);
    }

    private static String told(Method method) {
        List<String> types = new ArrayList<>();
        for (Class<?> type : method.getParameterTypes()) {
            types.add(type.getSimpleName());
        }
        return method.getReturnType().getSimpleName() + " " + method.getName() + "(" + String.join(",", types) + ")";
    }

    private static void classesInside() {
        Class<?>[] inside = BoundedSchemes.class.getDeclaredClasses();
        checks.due("at most twelve classes", inside.length <= 12, true);
        Set<String> faceNames = new TreeSet<>();
        for (String method : FACE) {
            faceNames.add(method.substring(method.indexOf(' ') + 1, method.indexOf('(')));
        }
        for (Class<?> one : inside) {
            checks.due(one + " is static", Modifier.isStatic(one.getModifiers()), true);
            int fields = 0;
            for (Field field : one.getDeclaredFields()) {
                fields += Modifier.isStatic(field.getModifiers()) ? 0 : 1;
                checks.due(field + " is no changing static",
                    !Modifier.isStatic(field.getModifiers()) || Modifier.isFinal(field.getModifiers()), true);
            }
            checks.due("fields of " + one, fields <= 20, true);
            for (Method method : one.getDeclaredMethods()) {
                checks.due(method + " has a name of the face", faceNames.contains(method.getName()), false);
                checks.due(method + " has few parameters", method.getParameterCount() <= 7, true);
                checks.due(method + " is hidden", isHidden(method), true);
            }
        }
    }

    private static boolean isHidden(Member member) {
        return !Modifier.isPublic(member.getModifiers()) && !Modifier.isProtected(member.getModifiers());
    }

    private static void words() throws IOException {
        String source = Files.readString(Path.of("src/main/java/BoundedSchemes.java"));
        checks.due("what is imported", String.join(" ", source.lines()
            .filter(line -> line.startsWith("import ")).toList()), "import java.util.Arrays;");
        for (String word : List.of("package ", "->", "::", "throw ", "try ", "synchronized",
            "assert ", "System.", "Random", "Thread", "instanceof", "static {")) {
            checks.due("the word " + word, source.contains(word), false);
        }
    }
}
