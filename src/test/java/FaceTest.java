import java.io.IOException;
import java.lang.reflect.Constructor;
import java.lang.reflect.Field;
import java.lang.reflect.Method;
import java.lang.reflect.Modifier;
import java.nio.file.Files;
import java.nio.file.Path;
import java.util.Arrays;
import java.util.Set;
import java.util.TreeSet;
import java.util.stream.Collectors;

/** The class has the face that the document writes out, and nothing else that can be seen. */
public final class FaceTest {
    public static void main(String[] args) throws IOException, ReflectiveOperationException {
        Path file = Path.of("../shared/DOC.md");
        if (!Files.exists(file)) {
            System.out.println("there is no " + file + " to hold the face against");
            return;
        }
        Set<String> told = toldFace(Files.readString(file));
        Set<String> seen = seenFace();
        Set<String> missing = new TreeSet<>(told);
        missing.removeAll(seen);
        missing.forEach(line -> System.out.println("the class has no: " + line));
        seen.removeAll(told);
        seen.forEach(line -> System.out.println("the document has no: " + line));
        if (!missing.isEmpty() || !seen.isEmpty()) {
            System.exit(1);
        }
        System.out.println("the face has its " + told.size() + " lines");
    }

    /** The lines of the document's first text of Java, without the names of parameters. */
    private static Set<String> toldFace(String document) {
        int begin = document.indexOf("```java\n") + "```java\n".length();
        String face = document.substring(begin, document.indexOf("```", begin));
        return face.lines().map(String::trim).filter(line -> line.startsWith("public "))
            .map(line -> line.replaceAll("\\bint [a-z]+(?=[,)])", "int")).collect(Collectors.toCollection(TreeSet::new));
    }

    private static Set<String> seenFace() throws ReflectiveOperationException {
        Set<String> seen = new TreeSet<>();
        String kind = SunTable.class.isInterface() ? "interface" : "class";
        seen.add(Modifier.toString(SunTable.class.getModifiers()) + " " + kind + " SunTable {");
        for (Field field : SunTable.class.getDeclaredFields()) {
            if (!Modifier.isPrivate(field.getModifiers())) {
                seen.add(Modifier.toString(field.getModifiers()) + " " + field.getType() + " " + field.getName() + " = "
                    + field.get(null) + ";");
            }
        }
        for (Constructor<?> made : SunTable.class.getDeclaredConstructors()) {
            seen.add(Modifier.toString(made.getModifiers()) + " SunTable(" + types(made.getParameterTypes()) + ");");
        }
        for (Method method : SunTable.class.getDeclaredMethods()) {
            if (!Modifier.isPrivate(method.getModifiers())) {
                seen.add(Modifier.toString(method.getModifiers()) + " " + method.getReturnType() + " "
                    + method.getName() + "(" + types(method.getParameterTypes()) + ");");
            }
        }
        return seen;
    }

    private static String types(Class<?>[] types) {
        return Arrays.stream(types).map(Class::toString).collect(Collectors.joining(", "));
    }
}
