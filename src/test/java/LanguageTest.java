import java.io.IOException;
import java.lang.reflect.Field;
import java.lang.reflect.Method;
import java.lang.reflect.Modifier;
import java.nio.file.Files;
import java.nio.file.Path;
import java.util.ArrayList;
import java.util.Arrays;
import java.util.List;
import java.util.regex.Matcher;
import java.util.regex.Pattern;

/** The rules of LANGUAGE.md that can be seen from the source and the compiled class. */
public final class LanguageTest {
    private static final Path SOURCE = Path.of("src/main/java/SunTable.java");
    private static final List<String> FACE = List.of("ahead/3", "back/1", "bare/1", "best/2", "count/1", "end/1",
        "feed/5", "fight/2", "force/1", "game/4", "give/3", "image/1", "land/2", "look/2", "mother/2", "need/3",
        "note/3", "parts/2", "quiet/0", "row/3", "rule/0", "ruled/1", "seed/1", "set/1", "shun/2", "summers/4",
        "swap/2", "table/0", "told/2", "undo/0", "week/0", "worth/3");
    private static int wrong = 0;

    public static void main(String[] args) throws IOException {
        String source = Files.readString(SOURCE);
        String code = source.replaceAll("(?s)/\\*.*?\\*/", "").replaceAll("//[^\n]*", "")
            .replaceAll("\"[^\"\n]*\"", "\"\"").replaceAll("'.'", "' '");
        banned(code);
        lengths(code);
        face();
        classes();
        System.out.println(wrong == 0 ? "the language is kept to" : wrong + " rules are broken");
        if (wrong != 0) {
            System.exit(1);
        }
    }

    private static void check(boolean kept, String rule) {
        if (!kept) {
            wrong++;
            System.out.println("broken: " + rule);
        }
    }

    private static void banned(String code) {
        for (String word : List.of("throw", "throws", "try", "catch", "finally", "synchronized", "assert", "import",
                "package", "protected", "volatile", "Object", "Random", "Thread", "hashCode", "toString")) {
            check(!Pattern.compile("\\b" + word + "\\b").matcher(code).find(), "no " + word);
        }
        check(!code.contains("->") && !code.contains("::"), "no lambda, no method reference");
        check(code.chars().allMatch(c -> c < 128), "signs 1 to 127 alone");
        check(!Pattern.compile("static\\s*\\{").matcher(code).find(), "no static block");
        check(!Pattern.compile("while").matcher(code).find(), "every loop counts");
    }

    private static void lengths(String code) {
        Matcher method = Pattern.compile("\n( {4}| {8})((?:public |private |static )*[\\w\\[\\]]+ \\w+)\\(([^)]*)\\) \\{")
            .matcher(code);
        while (method.find()) {
            int end = code.indexOf("\n" + method.group(1) + "}", method.end());
            long lines = code.substring(method.start() + 1, end).lines().count() + 1;
            check(lines <= 60, "a method of " + lines + " lines: " + method.group(2));
            check(method.group(3).split(",").length <= 7, "seven parameters: " + method.group(2));
        }
    }

    private static void face() {
        List<String> seen = new ArrayList<>();
        for (Method method : SunTable.class.getDeclaredMethods()) {
            boolean shown = Modifier.isPublic(method.getModifiers());
            check(shown || Modifier.isPrivate(method.getModifiers()), "private or of the face: " + method);
            if (shown) {
                seen.add(method.getName() + "/" + method.getParameterCount());
                check(method.getReturnType() == int.class, "answers an int: " + method);
            } else {
                check(isOwnName(method.getName()), "a name of its own: " + method);
            }
        }
        seen.sort(null);
        check(seen.equals(FACE), "the face: " + seen);
        for (Field field : SunTable.class.getDeclaredFields()) {
            boolean constant = field.getName().equals("NONE");
            check(constant || Modifier.isPrivate(field.getModifiers()), "a private field: " + field);
        }
        check(Arrays.stream(SunTable.class.getConstructors()).count() == 1, "one constructor");
        check(Modifier.isFinal(SunTable.class.getModifiers()), "a final class");
    }

    private static boolean isOwnName(String name) {
        return FACE.stream().noneMatch(shown -> shown.startsWith(name + "/"));
    }

    private static void classes() {
        Class<?>[] inside = SunTable.class.getDeclaredClasses();
        check(inside.length <= 12, "some twelve classes");
        for (Class<?> one : inside) {
            check(Modifier.isStatic(one.getModifiers()), "a static class: " + one);
            for (Method method : one.getDeclaredMethods()) {
                check(isOwnName(method.getName()), "a name of its own: " + method);
            }
            int fields = 0;
            for (Field field : one.getDeclaredFields()) {
                boolean constant = Modifier.isStatic(field.getModifiers());
                check(!constant || Modifier.isFinal(field.getModifiers()), "final static: " + field);
                fields += constant ? 0 : 1;
            }
            check(fields <= 20, "some twenty fields: " + one);
        }
    }
}
