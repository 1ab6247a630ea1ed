import java.io.IOException;
import java.lang.reflect.Method;
import java.lang.reflect.Modifier;
import java.net.URL;
import java.net.URLClassLoader;
import java.nio.file.Files;
import java.nio.file.Path;
import java.util.ArrayList;
import java.util.List;
import java.util.regex.Matcher;
import java.util.regex.Pattern;
import javax.tools.ToolProvider;

/** What README.md shows is compiled and run: each call must answer what stands behind it. */
public final class ReadmeTest {
    /** A call on a line of its own, and behind it the answer that README.md tells. */
    private static final Pattern SHOWN = Pattern.compile("(?m)^(x\\.\\w+\\(.*\\)); *// (-?\\d+):.*$");
    private static final int FEWEST_CALLS = 15;

    public static void main(String[] args) throws IOException, ReflectiveOperationException {
        String readme = Files.readString(Path.of("README.md"));
        List<String> blocks = javaBlocks(readme);
        List<String> wrong = new ArrayList<>();
        if (blocks.size() != 2) {
            wrong.add("README.md shows " + blocks.size() + " texts of Java, due are put and an example");
        } else {
            wrong.addAll(runExample(blocks.get(0), blocks.get(1)));
        }
        wrong.addAll(callsNotNamed(readme));
        wrong.addAll(testsNotNamed(readme));
        wrong.forEach(System.out::println);
        if (!wrong.isEmpty()) {
            System.exit(1);
        }
        System.out.println("all is as README.md shows it");
    }

    private static List<String> javaBlocks(String readme) {
        List<String> blocks = new ArrayList<>();
        Matcher block = Pattern.compile("(?s)```java\n(.*?)```").matcher(readme);
        while (block.find()) {
            blocks.add(block.group(1));
        }
        return blocks;
    }

    private static List<String> runExample(String put, String calls) throws IOException, ReflectiveOperationException {
        Matcher shown = SHOWN.matcher(calls);
        int count = (int) shown.results().count();
        if (count < FEWEST_CALLS) {
            return List.of("README.md shows " + count + " calls with their answers, due are " + FEWEST_CALLS);
        }
        String source = "public final class Example {\n"
            + "static final java.util.List<String> WRONG = new java.util.ArrayList<>();\n"
            + "static void due(String call, int got, int want) {\n"
            + "if (got != want) WRONG.add(\"README.md: \" + call + \" answered \" + got + \", told is \" + want); }\n"
            + put + "public static java.util.List<String> run() {\n"
            + shown.replaceAll("due(\"$1\", $1, $2);") + "return WRONG; } }\n";
        Path folder = Files.createTempDirectory("readme");
        Path file = folder.resolve("Example.java");
        // The last told is the first deleted, so the folder is empty then.
        List.of(folder, file, folder.resolve("Example.class")).forEach(path -> path.toFile().deleteOnExit());
        Files.writeString(file, source);
        int failed = ToolProvider.getSystemJavaCompiler().run(null, null, null, "-d", folder.toString(),
            "-classpath", System.getProperty("java.class.path"), file.toString());
        return failed != 0 ? List.of("what README.md shows does not compile") : answers(folder);
    }

    private static List<String> answers(Path folder) throws IOException, ReflectiveOperationException {
        List<String> wrong = new ArrayList<>();
        try (URLClassLoader loader = new URLClassLoader(new URL[] {folder.toUri().toURL()})) {
            for (Object one : (List<?>) loader.loadClass("Example").getMethod("run").invoke(null)) {
                wrong.add(one.toString());
            }
        }
        return wrong;
    }

    private static List<String> callsNotNamed(String readme) {
        List<String> wrong = new ArrayList<>();
        for (Method method : SunTable.class.getDeclaredMethods()) {
            boolean named = readme.contains("`" + method.getName() + "`");
            if (Modifier.isPublic(method.getModifiers()) && !named) {
                wrong.add("README.md does not name " + method.getName());
            }
        }
        return wrong;
    }

    private static List<String> testsNotNamed(String readme) throws IOException {
        List<String> wrong = new ArrayList<>();
        try (var files = Files.newDirectoryStream(Path.of("src/test/java"), "*Test.java")) {
            for (Path file : files) {
                String name = file.getFileName().toString().replace(".java", "");
                if (!readme.contains("`" + name + "`")) {
                    wrong.add("README.md does not name " + name);
                }
            }
        }
        return wrong;
    }
}
