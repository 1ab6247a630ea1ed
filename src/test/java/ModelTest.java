import java.lang.reflect.Method;
import java.util.ArrayList;
import java.util.List;
import java.util.Random;

/** Drawn runs of calls, each answer of SunTable held against PlainTable's; the draws are always the same. */
public final class ModelTest {
    private static final String[] WORDS = {"land", "other", "men", "sun", "hay", "barn", "theirmen", "theirsun",
        "theirhay", "rate", "soon", "week"};
    private static final String[] CALLS = {"feed", "end", "table", "rule", "force", "land", "told", "week", "swap",
        "give", "fight", "set", "undo", "ahead", "bare", "row", "best", "quiet", "worth", "need", "game", "shun",
        "mother", "parts", "note", "ruled", "look", "seed", "summers", "count", "image", "back"};
    /** How often each of these is drawn, of all together. */
    private static final int[] OFTEN = {1, 1, 2, 1, 6, 8, 4, 8, 8, 6, 5, 5, 6, 8, 4, 12, 5, 4, 8, 8, 10, 6, 5, 6, 8,
        5, 6, 3, 5, 10, 4, 12};

    private final Random random;
    private final SunTable real = new SunTable();
    private final PlainTable plain = new PlainTable();
    private final List<String> log = new ArrayList<>();
    /** Whether it is often gone back to images, so that fields are not bare soon. */
    private final boolean often;
    private int wrong;

    private ModelTest(long seed) {
        random = new Random(seed);
        often = seed % 3 != 0;
    }

    public static void main(String[] args) throws ReflectiveOperationException {
        int runs = args.length > 0 ? Integer.parseInt(args[0]) : 250;
        int wrong = 0;
        for (int run = 0; run < runs && wrong == 0; run++) {
            ModelTest test = new ModelTest(run);
            wrong += run % 5 == 4 ? test.runTexts() : test.runCalls();
        }
        System.out.println(wrong == 0 ? "all drawn runs are as the plain model's" : "a drawn run is wrong");
        if (wrong != 0) {
            System.exit(1);
        }
    }

    private int below(int n) {
        return random.nextInt(n);
    }

    private int call(String name, int... numbers) throws ReflectiveOperationException {
        Class<?>[] types = new Class<?>[numbers.length];
        Object[] values = new Object[numbers.length];
        for (int i = 0; i < numbers.length; i++) {
            types[i] = int.class;
            values[i] = numbers[i];
        }
        Method one = SunTable.class.getMethod(name, types);
        Method two = PlainTable.class.getDeclaredMethod(name, types);
        int got = (int) one.invoke(real, values);
        int due = (int) two.invoke(plain, values);
        log.add(name + java.util.Arrays.toString(numbers) + " = " + got);
        if (got != due && wrong == 0) {
            wrong = 1;
            System.out.println(String.join("\n", log) + "\n  due is " + due);
        }
        return got;
    }

    private void tell(String text, String as) throws ReflectiveOperationException {
        call("end", 0);
        for (int[] five : Texts.fives(text)) {
            call("feed", five);
        }
        call("end", text.length());
        log.add("\"" + text + "\"");
        call(as);
    }

    private int runCalls() throws ReflectiveOperationException {
        for (int i = below(7); i > 0; i--) {
            tell(aRule(), "rule");
        }
        for (int i = 0; i < 3; i++) {
            tell(aTable(), "table");
            call("force", below(Math.max(1, real.count(3))));
            call("image", i);
        }
        int all = java.util.Arrays.stream(OFTEN).sum();
        for (int i = 0; i < 350 && wrong == 0; i++) {
            int which = 0;
            for (int left = below(all); left >= OFTEN[which]; which++) {
                left -= OFTEN[which];
            }
            aCall(CALLS[which]);
        }
        return wrong;
    }

    private int runTexts() throws ReflectiveOperationException {
        for (int i = 0; i < 60 && wrong == 0; i++) {
            if (below(2) == 0) {
                tell(spoilt(below(3) == 0 ? aLongTable() : aTable()), "table");
            } else {
                tell(spoilt(below(2) == 0 ? aLongRule() : aRule()), "rule");
            }
            call("count", 3);
        }
        return wrong;
    }

    private void aCall(String name) throws ReflectiveOperationException {
        int lands = Math.max(1, real.count(2));
        int land = near(lands);
        int other = near(lands);
        int what = near(4);
        switch (name) {
            case "table": tell(below(3) == 0 ? spoilt(aTable()) : aTable(), "table"); break;
            case "rule": tell(below(3) == 0 ? spoilt(aRule()) : aRule(), "rule"); break;
            case "feed": call(name, random.nextInt(), 1, 2, 3, 4); break;
            case "end": call(name, below(30) - 2); break;
            case "force": call(name, below(8) - 1); break;
            case "land": call(name, land, near(6)); break;
            case "told": call(name, land, below(8) == 0 ? 58 + below(5) : near(12)); break;
            case "swap": case "fight": call(name, land, other); break;
            case "give": call(name, land, other, below(9) == 0 ? below(104) - 1 : below(8)); break;
            case "set": call(name, near(10)); break;
            case "ahead": call(name, land, below(5) == 0 ? 95 + below(8) : near(20), what); break;
            case "bare": call(name, land); break;
            case "row": call(name, land, near(5), near(5)); break;
            case "best": case "mother": call(name, span(), near(2)); break;
            case "worth": call(name, land, below(102), span()); break;
            case "need": call(name, land, below(9) == 0 ? 9990 + below(15) : near(60), span()); break;
            case "game": call(name, land, other, near(5), near(2)); break;
            case "shun": call(name, span(), near(3)); break;
            case "parts": call(name, below(5) == 0 ? 9990 + below(15) : near(300), land); break;
            case "note": aNote(land, other); break;
            case "ruled": call(name, near(2)); break;
            case "look": call(name, below(7) == 0 ? 57 + below(6) : near(6), near(2)); break;
            case "seed": call(name, random.nextInt() >> (below(9) == 0 ? 0 : 1) & (below(9) == 0 ? -1 : 2147483647)); break;
            case "summers": call(name, near(11), span(), below(104) - 1, near(2)); break;
            case "count": call(name, near(15)); break;
            case "image": call(name, near(4)); break;
            case "back": call(often ? name : "week", often ? new int[] {near(4)} : new int[0]); break;
            default: call(name);
        }
    }

    private void aNote(int land, int other) throws ReflectiveOperationException {
        if (below(12) == 0) {
            call("note", -1, 0, 0);
        } else {
            call("note", below(9) == 0 ? 57 + below(6) : near(5), land, below(2) == 0 ? -1 : other);
        }
    }

    /** Mostly below n, now and then a little or far outside. */
    private int near(int n) {
        switch (below(60)) {
            case 0: case 1: return -1;
            case 2: case 3: return n;
            case 4: return random.nextInt();
            case 5: return below(2) == 0 ? Integer.MIN_VALUE : Integer.MAX_VALUE;
            default: return below(n);
        }
    }

    private int span() {
        return below(6) == 0 ? 56 + below(7) : near(20);
    }

    private String aTable() {
        StringBuilder s = new StringBuilder("table " + (1 + below(below(3) == 0 ? 9 : 3)) + " " + below(10));
        int lands = below(12) == 0 ? below(3) : 2 + below(4);
        for (int i = 0; i < lands; i++) {
            s.append(";land ").append(below(below(3) == 0 ? 100 : 14)).append(' ').append(below(below(2) == 0 ? 10 : 3))
                .append(' ').append(below(below(2) == 0 ? 100 : 30));
        }
        for (int i = below(below(4) == 0 ? 36 : 12); i > 0 && lands > 0; i--) {
            s.append(";sun ").append(below(lands)).append(' ').append(below(below(3) == 0 ? 61 : 10));
        }
        return s.length() > 400 ? aTable() : s.toString();
    }

    private String aRule() {
        StringBuilder s = new StringBuilder();
        for (int i = below(4) == 0 ? below(12) : below(3); i >= 0; i--) {
            s.append("buy ").append(aSum());
            if (i > 0 || below(2) == 0) {
                s.append(" if ").append(aTest(0));
            }
            s.append(i > 0 ? ";" : "");
        }
        return s.length() > 400 ? aRule() : s.toString();
    }

    /** About as many clauses as there may be. */
    private String aLongTable() {
        StringBuilder s = new StringBuilder("table 1 1");
        for (int i = 3 + below(4); i > 0; i--) {
            s.append(";land 1 1 ").append(below(10));
        }
        for (int i = 30 + below(8); i > 0; i--) {
            s.append(";sun ").append(below(3)).append(' ').append(below(10));
        }
        return s.length() > 400 ? s.substring(0, 400) : s.toString();
    }

    /** About as many clauses, or as deep, or as many values and facts, as there may be. */
    private String aLongRule() {
        StringBuilder s = new StringBuilder("buy 1");
        int kind = below(3);
        if (kind == 0) {
            s.append(";buy sun".repeat(9 + below(4)));
        } else if (kind == 1) {
            s.append(" if ");
            String closing = "";
            for (int i = 7 + below(5); i > 0; i--) {
                boolean open = below(2) == 0;
                s.append(open ? "[" : "not ");
                closing += open ? "]" : "";
            }
            s.append("sun<hay").append(closing).append(" and men>0 or [sun=0]");
        } else {
            s.append(" if 1=1");
            for (int i = 3; i < 54 + below(8); i += 3) {
                s.append(below(2) == 0 ? " or 0=1" : " and 1=1");
            }
            s.append("+1".repeat(below(7)));
        }
        return s.toString();
    }

    private String aTest(int depth) {
        StringBuilder s = new StringBuilder(aFact(depth));
        for (int i = below(5) == 0 ? below(4) : 0; i > 0; i--) {
            s.append(below(2) == 0 ? " and " : " or ").append(aFact(depth));
        }
        return s.toString();
    }

    private String aFact(int depth) {
        int kind = below(depth > 9 ? 3 : 7);
        if (kind == 3) {
            return "not " + aFact(depth + 1);
        }
        if (kind == 4) {
            return "[" + aTest(depth + 1) + "]";
        }
        return aSum() + new String[] {"<", "<=", "=", ">=", ">"}[below(5)] + aSum();
    }

    private String aSum() {
        StringBuilder s = new StringBuilder(aValue());
        for (int i = below(3) == 0 ? below(5) : below(2); i > 0; i--) {
            s.append("+-*/%".charAt(below(5))).append(aValue());
        }
        return s.toString();
    }

    private String aValue() {
        return below(3) == 0 ? "" + below(below(5) == 0 ? 100000 : 7) : WORDS[below(WORDS.length)];
    }

    private String spoilt(String text) {
        if (below(4) == 0) {
            return text;
        }
        StringBuilder s = new StringBuilder(text);
        String signs = " ;[]<>=+-*/%019azAZ~\0\n";
        String[] words = {" not ", "[", ";buy 1", ";land 1 1 1", ";table 1 1", " if 1=1", " and ", " or ", "000000",
            ";sun 0 0", "not not not not not not not not not not not ", "[[[[[[[[[[[[", "+1+1+1+1+1+1+1+1+1+1+1+1"};
        for (int i = 1 + below(3); i > 0 && s.length() > 0; i--) {
            int at = below(s.length());
            switch (below(5)) {
                case 0: s.deleteCharAt(at); break;
                case 1: s.setCharAt(at, signs.charAt(below(signs.length()))); break;
                case 2: s.insert(at, signs.charAt(below(signs.length()))); break;
                case 3: s.insert(at, words[below(words.length)].repeat(1 + below(below(3) == 0 ? 20 : 2))); break;
                default: s.setLength(at);
            }
        }
        return s.length() > 400 ? s.substring(0, 400) : s.toString();
    }
}
