import java.io.IOException;
import java.lang.reflect.InvocationTargetException;
import java.lang.reflect.Method;
import java.nio.file.Files;
import java.nio.file.Path;
import java.util.Arrays;
import java.util.Comparator;

/** Runs the tests that hold a sentence of the document each, and looks that none was passed over. */
final class Held {
    private static int wrong;
    private static int tests;
    private static String held = "";

    private Held() {
    }

    static int run(Class<?>... groups) throws IOException, ReflectiveOperationException {
        Path file = Path.of("../shared/DOC.md");
        Document document = Files.exists(file) ? new Document(file) : null;
        boolean[] promises = new boolean[Document.PROMISES + 1];
        for (Class<?> group : groups) {
            Method[] methods = group.getDeclaredMethods();
            Arrays.sort(methods, Comparator.comparing(Method::getName));
            for (Method method : methods) {
                Sentence sentence = method.getAnnotation(Sentence.class);
                if (sentence != null) {
                    promises[sentence.promise()] = true;
                    look(document, method, sentence);
                }
            }
        }
        held = "the document";
        for (int i = 1; i <= Document.PROMISES; i++) {
            check(promises[i], "no test is of promise " + i);
        }
        if (document == null) {
            System.out.println("there is no " + file + " to hold the tests' quotes against");
        } else {
            lookForTheRest(document);
        }
        System.out.println(wrong == 0 ? tests + " tests hold their sentences" : wrong + " answers are not as due");
        return wrong;
    }

    private static void lookForTheRest(Document document) {
        for (int i = 0; i <= Document.PROMISES; i++) {
            String rest = document.rest(i);
            check(rest.isEmpty(), "no test holds, of " + (i == 0 ? "the Terms" : "promise " + i) + ": " + rest);
        }
    }

    private static void look(Document document, Method method, Sentence sentence) throws IllegalAccessException {
        tests++;
        held = "promise " + sentence.promise() + ", " + method.getDeclaringClass().getSimpleName() + "."
            + method.getName() + " (\"" + String.join("\", \"", sentence.says()) + "\")";
        for (String says : sentence.says()) {
            String fault = document == null ? null : document.quote(sentence.promise(), says);
            check(fault == null, fault);
        }
        try {
            method.invoke(null);
        } catch (InvocationTargetException e) {
            check(false, "threw " + e.getCause());
        }
    }

    static void check(boolean so, String otherwise) {
        if (!so) {
            wrong++;
            System.out.println(held + ": " + otherwise);
        }
    }

    static void due(String what, int got, int want) {
        check(got == want, what + " answered " + got + ", due is " + want);
    }

    /** A TABLE, with RULES of which none is in force yet; a fault in one of them is a fault of the test. */
    static SunTable with(String table, String... rules) {
        SunTable x = new SunTable();
        for (int i = 0; i < rules.length; i++) {
            due("rule '" + rules[i] + "'", Texts.rule(x, rules[i]), i);
        }
        int lands = Texts.table(x, table);
        check(lands >= 0, "table '" + table + "' answered " + lands);
        return x;
    }

    /** The same, with its first RULE in force. */
    static SunTable by(String rule, String table) {
        SunTable x = with(table, rule);
        x.force(0);
        return x;
    }

    static void weeks(SunTable x, int n) {
        for (int i = 0; i < n; i++) {
            x.week();
        }
    }

    /** MEN, SUN, HAY and BARN of a LAND. */
    static void dueLand(String what, SunTable x, int land, int... want) {
        for (int i = 0; i < want.length; i++) {
            due(what + ": land(" + land + ", " + i + ")", x.land(land, i), want[i]);
        }
    }

    /** What can be seen of an object by calls that ask alone: sixty of them. */
    static int[] seen(SunTable x) {
        int[] all = new int[60];
        for (int i = 0; i < 15; i++) {
            all[i] = x.count(i);
        }
        for (int i = 0; i < 30; i++) {
            all[15 + i] = x.land(i / 6, i % 6);
        }
        int[] weeks = {0, 1, 60};
        for (int i = 0; i < 15; i++) {
            all[45 + i] = x.told(i / 3, weeks[i % 3]);
        }
        return all;
    }

    /** Whether all that can be seen is as it was. */
    static void dueSame(String what, SunTable x, int[] was) {
        int[] now = seen(x);
        for (int i = 0; i < was.length; i++) {
            if (i < 15) {
                due(what + ": count(" + i + ")", now[i], was[i]);
            } else if (i < 45) {
                due(what + ": land(" + (i - 15) / 6 + ", " + (i - 15) % 6 + ")", now[i], was[i]);
            } else {
                due(what + ": told " + (i - 45), now[i], was[i]);
            }
        }
    }
}
