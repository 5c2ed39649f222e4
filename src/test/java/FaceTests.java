import java.io.IOException;
import java.lang.reflect.Constructor;
import java.lang.reflect.Field;
import java.lang.reflect.Method;
import java.lang.reflect.Modifier;
import java.nio.file.Files;
import java.nio.file.Path;
import java.util.Arrays;
import java.util.Set;
import java.util.TreeSet;
import java.util.stream.Collectors;

/** The face is the document's, and the classes inside are as the rules of LANGUAGE.md want them. */
public final class FaceTests {
    private static final Path DOCUMENT = Path.of("../shared/DOC.md");
    private static final Class<?> FACE = InflectionGuesser.class;

    private FaceTests() {
    }

    public static void main(String[] args) throws IOException {
        Checks.part("the face");
        Checks.due("the face", foundFace(), writtenFace());
        checkMembers();
        Checks.part("the classes inside");
        Checks.due("at most twelve", FACE.getDeclaredClasses().length + 1 <= 12, true);
        checkClass(FACE);
        checkNames(FACE);
        for (Class<?> inside : FACE.getDeclaredClasses()) {
            Checks.due(inside + " is static and not public", Modifier.isStatic(inside.getModifiers())
                    && !Modifier.isPublic(inside.getModifiers()), true);
            checkClass(inside);
            checkNames(inside);
        }
        Checks.end();
    }

    /** "inflect(int,int):int throws A,B" for each line of the document's face. */
    private static Set<String> writtenFace() throws IOException {
        String text = Files.readString(DOCUMENT);
        Set<String> face = new TreeSet<>();
        for (String line : text.split("```")[1].split("\n")) {
            String[] parts = line.trim().split("[(]|[)]|;");
            if (line.contains("(")) {
                String[] head = parts[0].split(" ");
                String parameters = parts.length < 2 || parts[1].isEmpty() ? ""
                        : Arrays.stream(parts[1].split(", ")).map(p -> p.split(" ")[0])
                                .collect(Collectors.joining(","));
                String thrown = parts.length < 3 ? "" : parts[2].trim().replace(", ", ",");
                String answer = head.length == 3 ? head[1] : "";
                face.add(head[head.length - 1] + "(" + parameters + "):" + answer + " " + thrown);
            }
        }
        return face;
    }

    private static Set<String> foundFace() {
        Set<String> face = new TreeSet<>();
        for (Method method : FACE.getDeclaredMethods()) {
            if (Modifier.isPublic(method.getModifiers())) {
                face.add(method.getName() + list(method.getParameterTypes()) + ":"
                        + method.getReturnType() + " " + thrown(method.getExceptionTypes()));
            }
        }
        for (Constructor<?> constructor : FACE.getConstructors()) {
            face.add(FACE.getSimpleName() + list(constructor.getParameterTypes()) + ": "
                    + thrown(constructor.getExceptionTypes()));
        }
        return face;
    }

    private static String list(Class<?>[] types) {
        return "(" + Arrays.stream(types).map(Class::getSimpleName).collect(Collectors.joining(",")) + ")";
    }

    private static String thrown(Class<?>[] types) {
        String names = Arrays.stream(types).map(Class::getSimpleName).collect(Collectors.joining(","));
        return names.isEmpty() ? "" : "throws " + names;
    }

    private static void checkMembers() {
        Checks.due("public and final", FACE.getModifiers(), Modifier.PUBLIC | Modifier.FINAL);
        Checks.due("the package", FACE.getPackageName(), "");
        for (Method method : FACE.getDeclaredMethods()) {
            Checks.due(method + " is public or private",
                    Modifier.isPublic(method.getModifiers()) || Modifier.isPrivate(method.getModifiers()), true);
        }
        for (Field field : FACE.getDeclaredFields()) {
            Checks.due(field + " is private", Modifier.isPrivate(field.getModifiers()), true);
        }
    }

    private static void checkClass(Class<?> type) {
        long fields = Arrays.stream(type.getDeclaredFields())
                .filter(f -> !Modifier.isStatic(f.getModifiers())).count();
        Checks.due(type + " has at most twenty fields", fields <= 20, true);
    }

    private static void checkNames(Class<?> inside) {
        Set<String> names = Arrays.stream(FACE.getMethods()).filter(m -> m.getDeclaringClass() == FACE)
                .map(Method::getName).collect(Collectors.toSet());
        for (Method method : inside.getDeclaredMethods()) {
            boolean isOfTheFace = inside == FACE && Modifier.isPublic(method.getModifiers());
            Checks.due(method + " bears a public name", !isOfTheFace && names.contains(method.getName()), false);
        }
    }
}
