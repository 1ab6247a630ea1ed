/** Each promise of the document by itself: ordinary calls, the edges it names, and wrong ones. */
public final class PromisesTest {
    private static int wrong = 0;
    private static int promise = 0;

    private static void due(String what, int got, int want) {
        if (got != want) {
            wrong++;
            System.out.println("promise " + promise + ": " + what + " answered " + got + ", due is " + want);
        }
    }

    public static void main(String[] args) {
        promise01();
        promise02();
        promise03();
        promise04();
        promise05();
        promise05Values();
        promise06();
        promise07();
        promise08();
        promise09();
        promise10();
        promise11();
        promise12();
        promise13();
        promise14();
        promise15();
        promise16();
        promise17();
        promise18();
        promise19();
        promise20();
        promise21();
        promise22();
        promise23();
        promise24();
        promise25();
        promise26();
        promise27();
        promise28();
        promise29();
        promise30();
        promise31();
        promise32();
        promise33();
        System.out.println(wrong == 0 ? "all promises hold" : wrong + " answers are not as due");
        if (wrong != 0) {
            System.exit(1);
        }
    }

    private static SunTable with(String table, String... rules) {
        SunTable x = new SunTable();
        for (String rule : rules) {
            Texts.rule(x, rule);
        }
        Texts.table(x, table);
        return x;
    }

    /** MEN, SUN, HAY and BARN of a LAND. */
    private static void dueLand(String what, SunTable x, int land, int men, int sun, int hay, int barn) {
        due(what + ": men of " + land, x.land(land, 0), men);
        due(what + ": sun of " + land, x.land(land, 1), sun);
        due(what + ": hay of " + land, x.land(land, 2), hay);
        due(what + ": barn of " + land, x.land(land, 3), barn);
    }

    private static void dueTable(String text, int place, int kind) {
        SunTable x = with("table 2 2;land 7 7 7");
        due("table of '" + text + "'", Texts.table(x, text), -3 - 8 * place - kind);
        due("the tape after '" + text + "'", x.count(14), 0);
        due("men after '" + text + "'", x.count(6), 7);
    }

    private static void dueRule(String text, int place, int kind) {
        SunTable x = new SunTable();
        due("rule of '" + text + "'", Texts.rule(x, text), -3 - 8 * place - kind);
        due("the tape after '" + text + "'", x.count(14), 0);
        due("rules after '" + text + "'", x.count(3), 0);
    }

    private static void promise01() {
        promise = 1;
        SunTable x = new SunTable();
        for (int what = 0; what <= 14; what++) {
            due("count(" + what + ")", x.count(what), what == 4 ? -1 : 0);
        }
        due("NONE", SunTable.NONE, -1);
        due("week", x.week(), -1);
        due("back", x.back(0), -1);
    }

    private static void promise02() {
        promise = 2;
        SunTable x = new SunTable();
        for (int i = 1; i <= 20; i++) {
            due("feed " + i, x.feed(-1, 0, 1, 2, Integer.MIN_VALUE), 20 * i);
        }
        due("one feed too many", x.feed(0, 0, 0, 0, 0), -1);
        due("bytes then", x.count(14), 400);
        x.end(381);
        due("nineteen bytes of room", x.feed(0, 0, 0, 0, 0), -1);
        x.end(380);
        due("twenty bytes of room", x.feed(0, 0, 0, 0, 0), 400);
        x.end(0);
        // "tabl" "e 3 " "4;la" "nd 1" " 2 3": the highest byte is the first.
        x.feed(0x7461626c, 0x65203320, 0x343b6c61, 0x6e642031, 0x20322033);
        due("the text fed", x.table(), 1);
        due("its rate", x.count(0), 3);
        due("its hay", x.count(8), 3);
    }

    private static void promise03() {
        promise = 3;
        SunTable x = new SunTable();
        due("end(0) of none", x.end(0), 0);
        due("end(1) of none", x.end(1), -1);
        x.feed(0x74616220, 0x6c652031, 0, 0, 0);
        due("end(21)", x.end(21), -1);
        due("end(-1)", x.end(-1), -1);
        due("end(min)", x.end(Integer.MIN_VALUE), -1);
        due("end(max)", x.end(Integer.MAX_VALUE), -1);
        due("nothing happened", x.count(14), 20);
        due("end(20)", x.end(20), 20);
        due("end(5)", x.end(5), 5);
        due("end(6)", x.end(6), -1);
        due("bytes", x.count(14), 5);
    }

    private static void promise04() {
        promise = 4;
        SunTable x = with("table 2 1;land 9 2 8;land 1 1 1;sun 1 3", "buy 1");
        x.force(0);
        x.seed(77);
        x.week();
        x.swap(0, 1);
        x.note(0, 0, 1);
        due("a new table", Texts.table(x, "  table 09 00000 ; land99 9 99;sun  0 60;sun 0 60  "), 1);
        int[] counts = {9, 0, 1, 1, 0, 0, 99, 9, 99, 0, 0, 0, 0, 77, 0};
        for (int what = 0; what < counts.length; what++) {
            due("count(" + what + ")", x.count(what), counts[what]);
        }
        due("told twice", x.told(0, 60), 2);
        due("told before", x.told(0, 3), 0);
        due("bought before", x.land(0, 5), -1);
        due("undone before", x.undo(), -2);
        due("a table without lands", Texts.table(x, "table 1 9"), 0);
        due("stale", x.count(1), 9);
        due("men", x.count(6), 0);
        StringBuilder forty = new StringBuilder("table 1 1;land 1 1 1");
        for (int i = 2; i < 40; i++) {
            forty.append(";sun 0 5");
        }
        due("forty clauses", Texts.table(x, forty.toString()), 1);
        due("told in them", x.told(0, 5), 38);
        dueTable(forty + ";sun 0 5", forty.length() + 1, 4);
        dueTable(forty + ";suns 0 5", forty.length() + 1, 0);
        dueTable(forty + "; ", forty.length() + 2, 0);
        dueTable("", 0, 0);
        dueTable("   ", 3, 0);
        dueTable("tab", 0, 0);
        dueTable("Table 1 1", 0, 0);
        dueTable(" land 1 1 1", 1, 4);
        dueTable("sun 0 0", 0, 4);
        dueTable(";table 1 1", 0, 0);
        dueTable("buy 1", 0, 0);
        dueTable("table", 5, 0);
        dueTable("table x", 6, 0);
        dueTable("table 0 1", 6, 1);
        dueTable("table 000001 1", 6, 1);
        dueTable("table 1", 7, 0);
        dueTable("table 1  ", 9, 0);
        dueTable("table 1 10", 8, 1);
        dueTable("table 1 1 1", 10, 0);
        dueTable("table 1 1 123456", 10, 0);
        dueTable("table 1 1;", 10, 0);
        dueTable("table 1 1;;", 10, 0);
        dueTable("table 1 1;table 1 1", 10, 4);
        dueTable("table 1 1land", 9, 0);
        dueTable("table 1 1;land 100 0 0", 15, 1);
        dueTable("table 1 1;land 0 10 0", 17, 1);
        dueTable("table 1 1;land 0 0 100", 19, 1);
        dueTable("table 1 1;land 0 0", 18, 0);
        dueTable("table 1 1;land -1 0 0", 15, 0);
        dueTable("table 1 1;sun 0 0", 14, 1);
        dueTable("table 1 1;land 0 0 0;sun 1 0", 25, 1);
        dueTable("table 1 1;land 0 0 0;sun 0 61", 27, 1);
        dueTable("table 1 1;land 0 0 0;sun 0", 26, 0);
        dueTable("table 1 1\t", 9, 0);
        dueTable(";".repeat(400), 0, 0);
        dueTable("table 1 1" + ";".repeat(391), 10, 0);
        dueTable("table 1 1" + " ".repeat(390) + ";", 400, 0);
        dueTable("table 1 1" + (char) 200, 9, 0);
        String lands = "table 1 1;land 0 0 0;land 0 0 0;land 0 0 0;land 0 0 0;land 0 0 0;";
        dueTable(lands + "land x", lands.length(), 4);
        dueTable(lands + "lands", lands.length(), 0);
    }

    private static void promise05() {
        promise = 5;
        SunTable x = new SunTable();
        for (int i = 0; i < 6; i++) {
            due("rule " + i, Texts.rule(x, "buy 1"), i);
            due("a fault behind it", i < 5 ? Texts.rule(x, "buy") : -27, -27);
        }
        Texts.put(x, "buy 1");
        due("a seventh", x.rule(), -1);
        due("nothing happens", x.count(14), 5);
        due("six", x.count(3), 6);
        dueRule("", 0, 0);
        dueRule("bu 1", 0, 0);
        dueRule("buymen", 0, 0);
        dueRule("table 1 1", 0, 0);
        dueRule("buy  ", 5, 0);
        dueRule("buy +1", 4, 0);
        dueRule("buy -1", 4, 0);
        dueRule("buy if", 4, 0);
        dueRule("buy table", 4, 0);
        dueRule("buy [1]", 4, 0);
        dueRule("buy 1 2", 6, 0);
        dueRule("buy 1 200000", 6, 0);
        dueRule("buy 123456", 4, 1);
        dueRule("buy 1+", 6, 0);
        dueRule("buy 1 if", 8, 0);
        dueRule("buy 1 iff 1=1", 6, 0);
        dueRule("buy 1 if 1", 10, 0);
        dueRule("buy 1 if 1 < = 2", 13, 0);
        dueRule("buy 1 if 1 == 2", 12, 0);
        dueRule("buy 1 if 1 => 2", 12, 0);
        dueRule("buy 1 if 1 ! 2", 11, 0);
        dueRule("buy 1 if 1<2<3", 12, 0);
        dueRule("buy 1 if 1<=", 12, 0);
        dueRule("buy 1 if 1>=", 12, 0);
        dueRule("buy 1 if 1<", 11, 0);
        dueRule("%".repeat(400), 0, 0);
        dueRule("buy 1 if [1<2", 13, 0);
        dueRule("buy 1 if [1<2;", 13, 0);
        dueRule("buy 1 if 1<2]", 12, 0);
        dueRule("buy 1 if []", 10, 0);
        dueRule("buy 1 if not", 12, 0);
        dueRule("buy 1 if nots=1", 9, 0);
        dueRule("buy 1 if 1=1 and", 16, 0);
        dueRule("buy 1 if 1=1 and or", 17, 0);
        dueRule("buy 1 if 1=1 not 1=1", 13, 0);
        dueRule("buy 1 if 1=1 if 1=1", 13, 0);
        dueRule("buy 1;", 6, 0);
        dueRule("buy 1;sell 1", 6, 0);
        dueRule("buy Men", 4, 0);
        dueRule("buy theirbarn", 4, 0);
        promise05Limits();
        x = new SunTable();
        String faulty = "buy 1" + "+1".repeat(59) + " if";
        for (int i = 0; i < 20; i++) {
            due("a long fault", Texts.rule(x, faulty), -3 - 8 * 126);
        }
        due("a rule behind all these", Texts.rule(x, "buy 0;buy 1"), 0);
        Texts.table(x, "table 1 1;land 1 0 1;land 0 1 0");
        x.force(0);
        due("nothing is left of them", x.week(), 0);
    }

    private static void promise05Limits() {
        String twelve = "buy 1" + ";buy 1".repeat(11);
        due("twelve clauses", Texts.rule(new SunTable(), twelve), 0);
        dueRule(twelve + ";buy 1", 72, 4);
        dueRule(twelve + "; buy", 73, 4);
        dueRule(twelve + ";bu 1", 72, 0);
        dueRule(twelve + ";", 72, 0);
        String open = "buy 1 if ";
        String ten = "[not ".repeat(5);
        due("ten deep", Texts.rule(new SunTable(), open + ten + "1=1" + "]".repeat(5)), 0);
        due("ten deep twice", Texts.rule(new SunTable(), open + "[".repeat(10) + "1=1" + "]".repeat(10)
            + " or " + "not ".repeat(10) + "1=1"), 0);
        dueRule(open + ten + "[1=1" + "]".repeat(6), 34, 2);
        dueRule(open + ten + "not 1=1" + "]".repeat(5), 34, 2);
        dueRule(open + ten + " not", 35, 2);
        dueRule(open + ten + "nots", 34, 0);
        String sixty = "buy 1" + "+1".repeat(59);
        due("sixty values", Texts.rule(new SunTable(), sixty), 0);
        dueRule(sixty + "+ men", 125, 3);
        dueRule(sixty + "+ mens", 125, 0);
        dueRule(sixty + "+ 123456", 125, 1);
        dueRule(sixty + "+", 124, 0);
        dueRule(sixty + ";buy 1", 128, 3);
        String most = "buy 1" + "+1".repeat(57);
        due("57 and a fact", Texts.rule(new SunTable(), "buy 1" + "+1".repeat(56) + " if 1=1"), 0);
        dueRule(most + " if 1=1", 125, 3);
        dueRule(most + "+1 if 1<=1", 126, 3);
        dueRule(most + "+1 if 1&1", 126, 0);
        dueRule(most + "+1+1 if 1=1", 127, 3);
    }

    /** Whether the first of two lands buys in its first week, by a test. */
    private static void dueTest(String test, boolean holds) {
        SunTable x = with("table 2 9;land 9 0 30;land 5 6 7;sun 0 0;sun 0 3;sun 0 3;sun 1 2",
            "buy 1 if land=0 and [" + test + "]");
        due("rules for '" + test + "'", x.count(3), 1);
        x.force(0);
        due("'" + test + "'", x.week(), holds ? 1 : 0);
    }

    private static void promise05Values() {
        String[] so = {"1=1", "1<2", "1<=1", "2>=2", "2>1", "7/2=3", "7%3=1", "7/0=0", "7%0=0", "2+3*4=14", "10-2-3=5",
            "100/10/5=2", "17%10%4=3", "2*7/4=3", "10-2*3+1=5", "land=0", "other=1", "men=9", "sun=1", "hay=30",
            "barn=0", "theirmen=5", "theirsun=6", "theirhay=7", "rate=2", "soon=3", "week=0", "not 1=2",
            "not not 1=1", "1=1 or 1=2 and 1=2", "[1=2 or 1=1] and 1=1", "not 1=2 and 1=1", "not [1=1 and 1=2]",
            "1=2 and 1=1 or 1=1", "1=2 or 1=2 or 1=1", "0-5<0", "1-2+1=0", "00012=12", "99999=99999",
            "1 = 1and 2=2or 3=4"};
        for (String test : so) {
            dueTest(test, true);
        }
        String[] notSo = {"1=2", "2<2", "2<1", "3<=2", "1>=2", "1>1", "not 1=1", "not 1=2 and 1=2",
            "1=2 or 1=1 and 1=2", "[1=1 or 1=1] and 1=2", "not [1=1 or 1=2]"};
        for (String test : notSo) {
            dueTest(test, false);
        }
        long product = 99999L * 99999L * 99999L * 99999L;
        String text = "99999*99999*99999*99999";
        dueTest(text + "<0", product < 0);
        long turned = 99999L * 99999L * 99999L * 99999L * 99999L;
        dueTest(text + "*99999<0", turned < 0);
        dueTest(text + "%1000+1000=" + (product % 1000 + 1000), true);
        dueTest(text + "*99999%1000+1000=" + (turned % 1000 + 1000), true);
        dueTest(text + "/99999/99999/99999/9999+50000=" + (product / 99999 / 99999 / 99999 / 9999 + 50000), true);
    }

    private static void promise06() {
        promise = 6;
        SunTable x = with("table 1 1;land 1 0 5;land 0 1 0", "buy 1", "buy 0");
        due("force(2)", x.force(2), -2);
        due("force(-2)", x.force(-2), -2);
        due("none yet", x.count(4), -1);
        due("force(1)", x.force(1), -1);
        due("by a rule that never buys", x.ahead(0, 1, 3), 0);
        due("force(0)", x.force(0), 1);
        due("it is in force", x.count(4), 0);
        due("force(NONE)", x.force(-1), 0);
        due("none", x.count(4), -1);
        due("without a rule", x.ahead(0, 1, 3), 0);
        due("without a rule: it bought", x.ahead(1, 1, 0), 1);
        due("force(6)", x.force(6), -2);
        due("not to be undone", x.count(12), 0);
    }

    private static void promise07() {
        promise = 7;
        SunTable x = with("table 3 4;land 3 1 10;land 2 2 20;land 9 0 30;land 5 1 0");
        dueLand("told", x, 0, 3, 1, 10, 0);
        due("from all with sun but itself", x.land(0, 4), 2 + 8);
        due("too few men", x.land(1, 4), 0);
        due("no sun of its own", x.land(2, 4), 1 + 2 + 8);
        due("ahead of the first week", x.land(2, 5), -1);
        x.week();
        due("it bought from the sunniest", x.land(2, 5), 1);
        due("it had sun", x.land(0, 5), -1);
        x.swap(2, 3);
        due("by hand is not in a week", x.land(2, 5), 1);
        x.week();
        due("from the one that bought ahead of it", x.land(2, 5), 1);
        x.week();
        due("no sun is left", x.land(2, 5), -1);
        due("land(4, 0)", x.land(4, 0), -2);
        due("land(-1, 0)", x.land(-1, 0), -2);
        due("land(0, 6)", x.land(0, 6), -2);
        due("land(0, -1)", x.land(0, -1), -2);
        due("land(max, 0)", x.land(Integer.MAX_VALUE, 0), -2);
    }

    private static void promise08() {
        promise = 8;
        SunTable x = with("table 1 1;land 0 0 0;sun 0 0;land 0 0 0;sun 1 60;sun 0 7;sun 0 7");
        due("told(0, 0)", x.told(0, 0), 1);
        due("told(0, 7)", x.told(0, 7), 2);
        due("told(1, 60)", x.told(1, 60), 1);
        due("told(1, 0)", x.told(1, 0), 0);
        due("told(2, 0)", x.told(2, 0), -1);
        due("told(-1, 0)", x.told(-1, 0), -1);
        due("told(0, 61)", x.told(0, 61), -1);
        due("told(0, -1)", x.told(0, -1), -1);
        x.week();
        due("it stays told", x.told(0, 0), 1);
    }

    private static void promise09() {
        promise = 9;
        SunTable x = with("table 2 1;land 3 0 10;land 4 4 1;land 2 0 0;sun 0 1;sun 2 0");
        // 0 buys from 1, which has most; 1 has sun; 2 has no hay.
        due("week 0", x.week(), 1);
        dueLand("week 0", x, 0, 1, 0, 9, 1);
        dueLand("week 0", x, 1, 6, 1, 0, 1);
        dueLand("week 0", x, 2, 2, 1, 0, 0);
        due("week 1", x.week(), 0);
        dueLand("week 1", x, 0, 1, 0, 8, 2);
        due("week 2", x.week(), 0);
        dueLand("rained upon", x, 0, 1, 0, 7, 2);
        due("the week", x.count(5), 3);
        due("no rule", Texts.rule(x, "buy theirsun*10-other if hay>0;buy 0-1"), 0);
        x = with("table 1 9;land 5 1 9;land 5 3 9;land 5 3 0;land 5 2 0", "buy theirsun*10-other if hay>0;buy 0-1");
        x.force(0);
        // 0 buys from 1 (29 against 28 and 17), then 1 from 2 (28 against 20 and 17).
        due("by a rule", x.week(), 2);
        due("of several the greatest", x.land(0, 5), 1);
        due("by how all is then", x.land(1, 5), 2);
        due("below 0", x.land(2, 5), -1);
        dueLand("by a rule", x, 0, 4, 1, 5, 4);
        dueLand("by a rule", x, 1, 5, 2, 4, 5);
        x = with("table 1 9;land 5 0 9;land 5 3 0;land 5 3 0", "buy 7 if land=0");
        x.force(0);
        due("alike", x.week(), 1);
        due("of several the least", x.land(0, 5), 1);
        x = with("table 1 0;land 5 5 0;land 0 3 9");
        x.week();
        dueLand("all above stale is lost", x, 0, 5, 0, 0, 0);
        dueLand("without men a sun is used", x, 1, 0, 0, 9, 0);
        due("no table", new SunTable().week(), -1);
        due("a table without lands", with("table 1 1").week(), 0);
    }

    private static void promise10() {
        promise = 10;
        SunTable x = with("table 3 1;land 7 0 1;land 0 2 1;land 2 1 1");
        due("swap(0, 0)", x.swap(0, 0), -1);
        due("swap(0, 3)", x.swap(0, 3), -1);
        due("swap(-1, 0)", x.swap(-1, 0), -1);
        due("no men", x.swap(1, 2), -1);
        due("no sun there", x.swap(2, 0), -1);
        due("too few men", x.swap(2, 1), -1);
        due("nothing happened", x.count(12), 0);
        due("swap(0, 1)", x.swap(0, 1), 4);
        due("swap(0, 1) again", x.swap(0, 1), 1);
        due("too few are left", x.swap(0, 1), -1);
        dueLand("after", x, 0, 1, 2, 1, 0);
        dueLand("after", x, 1, 6, 0, 1, 0);
        due("bought", x.count(10), 2);
        due("acts", x.count(12), 2);
    }

    private static void promise11() {
        promise = 11;
        SunTable x = with("table 3 1;land 7 0 1;land 99 0 1");
        due("give(0, 0, 1)", x.give(0, 0, 1), -1);
        due("give(0, 2, 1)", x.give(0, 2, 1), -1);
        due("give(2, 0, 1)", x.give(2, 0, 1), -1);
        due("give(0, 1, 0)", x.give(0, 1, 0), -1);
        due("give(0, 1, -1)", x.give(0, 1, -1), -1);
        due("give(0, 1, 8)", x.give(0, 1, 8), -1);
        due("give(1, 0, 100)", x.give(1, 0, 100), -1);
        due("nothing happened", x.count(12), 0);
        due("give(0, 1, 7)", x.give(0, 1, 7), 0);
        due("men there", x.land(1, 0), 106);
        due("give(1, 0, 100) of 106", x.give(1, 0, 100), -1);
        due("give(1, 0, 99)", x.give(1, 0, 99), 7);
        due("nothing bought", x.count(10), 0);
    }

    private static void promise12() {
        promise = 12;
        SunTable x = with("table 3 1;land 7 0 1;land 20 0 1;land 0 0 0;land 1 0 0");
        due("fight(0, 0)", x.fight(0, 0), -1);
        due("fight(0, 4)", x.fight(0, 4), -1);
        due("fight(-1, 0)", x.fight(-1, 0), -1);
        due("one without men", x.fight(0, 2), -1);
        due("the other way", x.fight(2, 0), -1);
        due("half upwards", x.fight(0, 1), 4);
        due("men left", x.land(0, 0), 3);
        due("men left there", x.land(1, 0), 16);
        due("half of one", x.fight(1, 3), 1);
        due("none left", x.land(3, 0), 0);
        due("no more", x.fight(1, 3), -1);
        due("acts", x.count(12), 2);
    }

    private static void promise13() {
        promise = 13;
        due("no table", new SunTable().set(1), -1);
        SunTable x = with("table 3 1;land 7 0 1");
        due("set(0)", x.set(0), -1);
        due("set(10)", x.set(10), -1);
        due("set(3)", x.set(3), -1);
        due("set(9)", x.set(9), 3);
        due("set(1)", x.set(1), 9);
        due("rate", x.count(0), 1);
        due("acts", x.count(12), 2);
    }

    private static void promise14() {
        promise = 14;
        SunTable x = with("table 3 1;land 7 0 5;land 7 2 5", "buy 0");
        due("nothing to undo", x.undo(), -2);
        x.week();
        due("bought in it", x.land(0, 5), 1);
        x.force(0);
        x.seed(5);
        x.note(0, 0, 1);
        x.set(5);
        due("one more can be", x.undo(), 1);
        due("rate", x.count(0), 3);
        due("none more", x.undo(), 0);
        dueLand("a week undone", x, 0, 7, 0, 5, 0);
        due("from nobody again", x.land(0, 5), -1);
        due("nothing bought", x.count(10), 0);
        due("week", x.count(5), 0);
        due("no act: the rule in force", x.count(4), 0);
        due("no act: x", x.count(13), 5);
        due("no act: notes", x.count(11), 1);
        for (int i = 0; i < 25; i++) {
            x.set(i % 2 == 0 ? 9 : 8);
        }
        due("twenty at most", x.count(12), 20);
        for (int i = 19; i >= 0; i--) {
            due("undo", x.undo(), i);
        }
        due("no more", x.undo(), -2);
        due("five stay", x.count(0), 9);
    }

    private static void promise15() {
        promise = 15;
        SunTable x = with("table 5 3;land 20 0 30;land 8 2 6;sun 0 2");
        int[][] of0 = {{20, 0, 30, 0}, {15, 0, 15, 15}, {15, 0, 14, 15}, {15, 0, 0, 29}};
        for (int n = 0; n < of0.length; n++) {
            for (int what = 0; what < 4; what++) {
                due("ahead(0, " + n + ", " + what + ")", x.ahead(0, n, what), of0[n][what]);
            }
        }
        due("ahead(1, 100, 3)", x.ahead(1, 100, 3), 6);
        due("ahead(1, 101, 3)", x.ahead(1, 101, 3), -1);
        due("ahead(1, -1, 3)", x.ahead(1, -1, 3), -1);
        due("ahead(2, 1, 3)", x.ahead(2, 1, 3), -1);
        due("ahead(0, 1, 4)", x.ahead(0, 1, 4), -1);
        due("ahead(0, 1, -1)", x.ahead(0, 1, -1), -1);
        due("nothing changed", x.count(5), 0);
        due("nothing bought", x.count(10), 0);
    }

    private static void promise16() {
        promise = 16;
        SunTable x = with("table 1 0;land 0 0 99;land 0 0 0;land 1 9 98;land 0 1 99");
        due("rain for 99 weeks", x.bare(0), 99);
        due("bare now", x.bare(1), 0);
        due("one reaped, then rain", x.bare(2), 98);
        due("never within 100", x.bare(3), -2);
        x.week();
        due("a week later the same", x.bare(0), 99);
        due("bare in this week", x.bare(1), 1);
        due("the last of 100", x.bare(3), 100);
        due("no such land", x.bare(4), -1);
        due("no such land either", x.bare(-1), -1);
        due("no table", new SunTable().bare(0), -1);
    }

    private static void promise17() {
        promise = 17;
        SunTable x = with("table 5 3;land 20 0 30;land 8 2 6;land 1 3 0;sun 0 2");
        due("fullest in one", x.row(0, 1, 0), 15);
        due("of several the first", x.row(0, 1, 1), 1);
        due("in two", x.row(0, 2, 0), 30 - 5);
        due("first from", x.row(0, 2, 1), 1);
        due("then from", x.row(0, 2, 2), 2);
        due("no third", x.row(0, 2, 3), -2);
        due("no fourth", x.row(0, 2, 4), -2);
        due("nothing to reap", x.row(2, 4, 0), 0);
        due("nobody stands first", x.row(2, 4, 1), -1);
        due("nobody to the end", x.row(2, 4, 4), -1);
        due("row(3, 1, 0)", x.row(3, 1, 0), -3);
        due("row(0, 0, 0)", x.row(0, 0, 0), -3);
        due("row(0, 5, 0)", x.row(0, 5, 0), -3);
        due("row(0, 1, 5)", x.row(0, 1, 5), -3);
        due("row(0, 1, -1)", x.row(0, 1, -1), -3);
        due("nothing changed", x.count(10), 0);
        x = with("table 1 9;land 9 0 9;land 9 3 9;land 0 1 0", "buy 0", "buy 1");
        x.force(0);
        due("in place of the rule", x.row(0, 1, 0), 8);
        due("from the least", x.row(0, 1, 1), 1);
        x.force(1);
        due("others by the rule: 1 buys it back", x.row(0, 1, 0), 0);
    }

    private static void promise18() {
        promise = 18;
        SunTable x = with("table 5 3;land 4 0 30;land 8 2 6");
        due("at rate 1: 3 reaped here, 6 there", x.best(1, 1), 9);
        due("best(1, 0)", x.best(1, 0), 1);
        x = with("table 5 3;land 20 0 5;land 0 1 9", "buy 1 if rate=3 and land=0");
        x.force(0);
        // 0 has no sun but by rate 3, by which it reaps all 5; 1 has a sun, which it has no men to use for.
        due("by the rule", x.best(1, 0), 3);
        due("how full then", x.best(1, 1), 5);
        x = with("table 5 3;land 20 0 0");
        due("of several the least", x.best(60, 0), 1);
        due("nothing", x.best(60, 1), 0);
        due("best(0, 0)", x.best(0, 0), -1);
        due("best(61, 0)", x.best(61, 0), -1);
        due("best(1, 2)", x.best(1, 2), -1);
        due("best(1, -1)", x.best(1, -1), -1);
        due("no table", new SunTable().best(1, 0), -1);
        due("the rate stays", x.count(0), 5);
    }

    private static void promise19() {
        promise = 19;
        SunTable x = with("table 1 9;land 9 0 99;land 0 0 0;sun 1 4;sun 1 9;sun 1 15", "buy 1 if land=0", "buy 1");
        due("weeks 10 to 14", x.quiet(), 10);
        x.force(0);
        due("the same by a rule", x.quiet(), 10);
        x.week();
        due("it is told as a week of all", x.quiet(), 10);
        for (int i = 1; i < 16; i++) {
            x.week();
        }
        due("quiet now", x.quiet(), 16);
        x = with("table 1 9;land 9 1 0;land 9 1 0", "buy 1");
        x.force(0);
        due("never quiet", x.quiet(), -2);
        x = with("table 1 9;land 9 1 0;land 9 1 0", "buy 1 if week<59", "buy 1 if week<60");
        x.force(0);
        due("the last of 60", x.quiet(), 59);
        x.force(1);
        due("one behind these", x.quiet(), -2);
        due("no table", new SunTable().quiet(), -1);
        due("no lands", with("table 1 1").quiet(), 0);
    }

    private static void promise20() {
        promise = 20;
        SunTable x = with("table 5 3;land 20 0 30;land 8 2 6");
        due("five more reap", x.worth(0, 5, 1), 5);
        due("all is reaped", x.worth(0, 99, 1), 15);
        due("nothing more to reap", x.worth(1, 5, 1), 0);
        x = with("table 1 9;land 5 0 5;land 2 2 9", "buy 1 if theirmen>4");
        x.force(0);
        // With more men than 4 there, 0 buys one of the two suns of 1, which reaps with one man more.
        due("three, and one for the sun", x.worth(1, 3, 1), 4);
        x = with("table 9 9;land 8 3 50", "buy 1");
        due("alone", x.worth(0, 1, 3), 3);
        x = with("table 9 9;land 8 3 50;land 0 3 0", "buy 1 if land=0");
        x.force(0);
        due("below 0: it buys with 9", x.worth(0, 1, 1), -8);
        due("worth(2, 1, 1)", x.worth(2, 1, 1), -100000);
        due("worth(0, 0, 1)", x.worth(0, 0, 1), -100000);
        due("worth(0, 100, 1)", x.worth(0, 100, 1), -100000);
        due("worth(0, 1, 0)", x.worth(0, 1, 0), -100000);
        due("worth(0, 1, 61)", x.worth(0, 1, 61), -100000);
        due("nothing changed", x.land(0, 0), 8);
    }

    private static void promise21() {
        promise = 21;
        SunTable x = with("table 9 9;land 3 1 80;land 0 0 0");
        due("one is enough", x.need(0, 3, 1), 0);
        due("not in one week", x.need(0, 4, 1), -2);
        due("one more", x.need(0, 4, 2), 1);
        due("stale keeps nine: ten weeks", x.need(0, 30, 60), 9);
        due("no more than that", x.need(0, 31, 60), -2);
        due("need(0, 0, 1)", x.need(0, 0, 1), -1);
        due("need(0, 10000, 1)", x.need(0, 10000, 1), -1);
        due("need(0, 9999, 1)", x.need(0, 9999, 1), -2);
        due("need(2, 1, 1)", x.need(2, 1, 1), -1);
        due("need(0, 1, 0)", x.need(0, 1, 0), -1);
        due("need(0, 1, 61)", x.need(0, 1, 61), -1);
        x.week();
        due("it is full already", x.need(0, 3, 1), 0);
        x = with("table 1 0;land 1 0 9;land 0 0 99", "buy 1 if land=1");
        x.force(0);
        due("men go, sun is left", x.need(1, 1, 1), -2);
        x = with("table 5 9;land 1 1 50;land 9 0 0", "buy 1 if land=1 and theirsun>20", "buy 1 if land=1 and theirsun>21");
        x.force(0);
        due("twenty more", x.need(0, 6, 1), 20);
        x.force(1);
        due("no more than twenty", x.need(0, 6, 1), -2);
    }

    private static void promise22() {
        promise = 22;
        SunTable x = with("table 5 3;land 20 0 30;land 8 2 6;sun 0 2");
        due("it buys: 15 less 6", x.game(0, 1, 1, 0), 9);
        due("so", x.game(0, 1, 1, 1), 1);
        due("the other one: 6 less 0", x.game(1, 0, 1, 0), 6);
        due("it can't", x.game(1, 0, 1, 1), 0);
        due("game(0, 0, 1, 0)", x.game(0, 0, 1, 0), -100000);
        due("game(0, 2, 1, 0)", x.game(0, 2, 1, 0), -100000);
        due("game(-1, 0, 1, 0)", x.game(-1, 0, 1, 0), -100000);
        due("game(0, 1, 0, 0)", x.game(0, 1, 0, 0), -100000);
        due("game(0, 1, 5, 0)", x.game(0, 1, 5, 0), -100000);
        due("game(0, 1, 1, 2)", x.game(0, 1, 1, 2), -100000);
        due("game(0, 1, 1, -1)", x.game(0, 1, 1, -1), -100000);
        due("nothing changed", x.count(10), 0);
        x = with("table 1 9;land 5 0 0;land 5 3 0");
        due("not ahead of so", x.game(0, 1, 4, 1), 0);
        due("nothing", x.game(0, 1, 4, 0), 0);
        // One sun: who buys it first reaps 3; the second one buys it back if it was not used.
        x = with("table 1 9;land 4 0 3;land 4 1 3");
        due("takes it away", x.game(0, 1, 1, 0), 3);
        due("the other one first", x.game(1, 0, 1, 0), 3);
        due("it need not buy", x.game(1, 0, 1, 1), 0);
        x = with("table 1 9;land 5 0 5;land 9 2 9;land 9 0 9", "buy 1 if land<2", "buy 1 if land=2 and other=1");
        x.force(0);
        due("neither buys by the rule", x.game(0, 1, 1, 0), 4 - 9);
        x.force(1);
        due("a third one buys by it", x.game(0, 1, 1, 0), 4 - 0);
    }

    private static void promise23() {
        promise = 23;
        // 0 buys the only sun of 1 and reaps 4 with what is left; 1 would reap 9.
        SunTable x = with("table 1 0;land 5 0 9;land 9 1 9;land 0 0 0", "buy 1 if land=0");
        x.force(0);
        due("how many", x.shun(1, 0), 1);
        due("the set", x.shun(1, 1), 2);
        due("how full", x.shun(1, 2), 9);
        x.force(-1);
        due("without a rule 1 buys it back", x.shun(1, 1), 0);
        x = with("table 1 0;land 5 0 9;land 1 1 9;land 0 0 0", "buy 1 if land=0");
        x.force(0);
        due("best shun nobody", x.shun(1, 0), 0);
        due("no set", x.shun(1, 1), 0);
        due("4 reaped", x.shun(1, 2), 4);
        // Shunning the first of two alike lets buy from the second one.
        x = with("table 1 0;land 5 0 9;land 9 1 9;land 9 1 0", "buy 1 if land=0");
        x.force(0);
        due("from the second", x.shun(1, 1), 2);
        due("both reap", x.shun(1, 2), 4 + 9);
        due("shun(0, 0)", x.shun(0, 0), -1);
        due("shun(61, 0)", x.shun(61, 0), -1);
        due("shun(1, 3)", x.shun(1, 3), -1);
        due("shun(1, -1)", x.shun(1, -1), -1);
        due("no table", new SunTable().shun(1, 0), -1);
        due("no lands", with("table 1 1").shun(1, 2), 0);
    }

    private static void promise24() {
        promise = 24;
        SunTable x = with("table 9 0;land 3 0 9;land 5 0 9;land 5 0 9;land 8 1 9");
        due("the least of the best", x.mother(1, 0), 1);
        due("how full", x.mother(1, 1), 5 + 8);
        x = with("table 9 9;land 0 0 9;land 5 1 4");
        due("nobody", x.mother(1, 0), -1);
        due("how full then", x.mother(1, 1), 4);
        due("mother(0, 0)", x.mother(0, 0), -2);
        due("mother(61, 0)", x.mother(61, 0), -2);
        due("mother(1, 2)", x.mother(1, 2), -2);
        due("mother(1, -1)", x.mother(1, -1), -2);
        due("no table", new SunTable().mother(1, 0), -2);
        due("no lands", with("table 1 1").mother(1, 0), -1);
        due("nothing changed", x.count(7), 1);
    }

    private static void promise25() {
        promise = 25;
        SunTable x = with("table 9 0;land 3 1 9;land 3 1 9;land 3 1 9;land 5 1 9;land 8 0 9");
        due("all are empty", x.parts(100, 0), 0);
        x.week();
        // 3, 3, 3, 5, 0 of 14; of 10: 2 and 2/14 each, 3 and 8/14, 0; one is left for the one with 8/14.
        int[] ten = {2, 2, 2, 4, 0};
        // Of 12: 2 and 8/14 each, 4 and 4/14; two are left for the first two.
        int[] twelve = {3, 3, 2, 4, 0};
        int[] most = {2143, 2143, 2142, 3571, 0};
        for (int land = 0; land < 5; land++) {
            due("of ten " + land, x.parts(10, land), ten[land]);
            due("of twelve " + land, x.parts(12, land), twelve[land]);
            due("of 9999 " + land, x.parts(9999, land), most[land]);
            due("of none " + land, x.parts(0, land), 0);
        }
        due("parts(-1, 0)", x.parts(-1, 0), -1);
        due("parts(10000, 0)", x.parts(10000, 0), -1);
        due("parts(1, 5)", x.parts(1, 5), -1);
        due("parts(1, -1)", x.parts(1, -1), -1);
    }

    private static void promise26() {
        promise = 26;
        SunTable x = with("table 1 1;land 1 1 1;land 1 1 1");
        due("note(61, 0, 1)", x.note(61, 0, 1), -2);
        due("note(-2, 0, 1)", x.note(-2, 0, 1), -2);
        due("note(0, 2, 1)", x.note(0, 2, 1), -2);
        due("note(0, -1, 1)", x.note(0, -1, 1), -2);
        due("note(0, -1, -1)", x.note(0, -1, -1), -2);
        due("note(0, 0, 2)", x.note(0, 0, 2), -2);
        due("note(0, 0, -2)", x.note(0, 0, -2), -2);
        due("note(0, 1, 1)", x.note(0, 1, 1), -2);
        for (int i = 1; i <= 10; i++) {
            due("note " + i, x.note(60, 0, i % 2 == 0 ? 1 : -1), i);
        }
        due("an eleventh", x.note(0, 0, 1), -2);
        due("ten", x.count(11), 10);
        due("none then", x.note(-1, 99, 99), 0);
        due("none", x.count(11), 0);
        due("the first again", x.note(0, 0, 1), 1);
        due("without a table", new SunTable().note(-1, 0, 0), 0);
        due("without its lands", new SunTable().note(0, 0, -1), -2);
    }

    private static void promise27() {
        promise = 27;
        SunTable x = with("table 1 0;land 9 0 9;land 0 1 0;land 0 1 0;sun 1 1;sun 2 1;sun 2 1",
            "buy other", "buy 0", "buy 3-other", "buy theirsun if land=0");
        due("all without notes", x.ruled(0), 5);
        due("none the first", x.ruled(1), -1);
        x.note(0, 0, 1);
        due("none, 2 and 3", x.ruled(0), 3);
        due("none is the first", x.ruled(1), -1);
        x.note(1, 0, 1);
        due("2 alone", x.ruled(0), 1);
        due("it is 2", x.ruled(1), 2);
        // What is done by hand, what was set and what is in force counts for nothing.
        x.set(9);
        x.force(1);
        x.week();
        x.give(0, 1, 9);
        due("from the begin on", x.ruled(1), 2);
        x.note(2, 0, 1);
        due("no sun was there", x.ruled(0), 0);
        due("none such", x.ruled(1), -2);
        x.note(-1, 0, 0);
        x.note(60, 1, -1);
        due("from nobody at the end", x.ruled(0), 5);
        due("ruled(2)", x.ruled(2), -3);
        due("ruled(-1)", x.ruled(-1), -3);
        due("no table", new SunTable().ruled(0), -3);
    }

    private static void promise28() {
        promise = 28;
        SunTable x = with("table 1 0;land 9 0 9;land 9 3 0;land 9 3 0",
            "buy other if land=0", "buy 0", "buy 3-other", "buy 1 if other=1");
        // By none 0 buys from 1; by 0 from 2; by 1 nobody buys; by 2 from 1, then 1 from 0, 2 from 1;
        // by 3 0 buys from 1 and 2 from 1.
        due("0 parts in 3, 1 and 1; 1 in 4 and 1; 2 in 3 and 2", x.look(0, 0), 0);
        due("the most alike", x.look(0, 1), 3);
        x.note(0, 0, 1);
        due("0 no more; 1 in 2 and 1, 2 in 2 and 1", x.look(0, 0), 1);
        due("two of three", x.look(0, 1), 2);
        due("later nothing is there to buy", x.look(60, 1), 3);
        due("of several the least", x.look(60, 0), 0);
        x.note(0, 0, 2);
        due("no rule is so", x.look(0, 0), -2);
        due("no rule is so: how many", x.look(0, 1), -2);
        due("look(61, 0)", x.look(61, 0), -1);
        due("look(-1, 0)", x.look(-1, 0), -1);
        due("look(0, 2)", x.look(0, 2), -1);
        due("look(0, -1)", x.look(0, -1), -1);
        due("no table", new SunTable().look(0, 0), -1);
        due("no lands", with("table 1 1").look(0, 0), -2);
    }

    private static void promise29() {
        promise = 29;
        SunTable x = new SunTable();
        due("seed(-1)", x.seed(-1), -1);
        due("seed(min)", x.seed(Integer.MIN_VALUE), -1);
        due("x at first", x.seed(2147483647), 0);
        due("x", x.count(13), 2147483647);
        due("what it was", x.seed(0), 2147483647);
        due("not to be undone", x.undo(), -2);
    }

    private static void promise30() {
        promise = 30;
        // x: 0, 12345, 1406932606, 654583775, 1449466924, 229283573; draws: 0, 21468, 9988, 22117, 3498.
        SunTable x = with("table 9 9;land 1 0 50;land 2 0 50;land 4 0 50");
        due("the sun for 21468 % 3 = 0", x.summers(1, 1, 100, 0), 1);
        // Ahead of the second week 9988 % 100 = 88, then 22117 % 3 = 1.
        due("two weeks, the second for 1", x.summers(1, 2, 100, 0), 1 + 2);
        due("88 is not below 88", x.summers(1, 2, 88, 0), 1);
        due("88 is below 89", x.summers(1, 2, 89, 0), 1 + 2);
        due("0 is not below 0", x.summers(1, 60, 0, 0), 0);
        due("two times a week from now on", x.summers(2, 1, 100, 0), 1 + 2);
        due("x as it was", x.count(13), 0);
        x.seed(12345);
        // Draws 21468 % 100 = 68, 9988 % 3 = 1.
        due("from another x", x.summers(1, 1, 69, 0), 2);
        due("68 is not below 68", x.summers(1, 1, 68, 0), 0);
        x = with("table 1 9;land 5 0 50;land 5 0 0");
        x.seed(0);
        // By x = 0: draws 0, 21468 % 2 = 0: it has sun itself. Then 88, 22117 % 2 = 1: 0 buys it.
        due("nobody buys at first", x.summers(1, 1, 100, 1), 0);
        due("then one", x.summers(1, 2, 100, 1), 1);
        due("all together", x.summers(2, 1, 100, 1), 1);
        due("5, and 4", x.summers(2, 1, 100, 0), 9);
        due("nothing changed", x.count(10), 0);
        due("summers(0, 1, 1, 0)", x.summers(0, 1, 1, 0), -1);
        due("summers(11, 1, 1, 0)", x.summers(11, 1, 1, 0), -1);
        due("summers(1, 0, 1, 0)", x.summers(1, 0, 1, 0), -1);
        due("summers(1, 61, 1, 0)", x.summers(1, 61, 1, 0), -1);
        due("summers(1, 1, -1, 0)", x.summers(1, 1, -1, 0), -1);
        due("summers(1, 1, 101, 0)", x.summers(1, 1, 101, 0), -1);
        due("summers(1, 1, 1, 2)", x.summers(1, 1, 1, 2), -1);
        due("summers(1, 1, 1, -1)", x.summers(1, 1, 1, -1), -1);
        due("no table", new SunTable().summers(1, 1, 1, 0), -1);
        due("no lands", with("table 1 1").summers(10, 60, 100, 0), 0);
    }

    private static void promise31() {
        promise = 31;
        SunTable x = with("table 2 3;land 9 1 20;land 5 4 6", "buy 1", "buy 2");
        x.force(1);
        x.seed(9);
        x.note(0, 0, 1);
        x.week();
        x.swap(0, 1);
        Texts.put(x, "abc");
        // The week: 0 buys from 1 (7, 2; 7, 3), 1 from 0 (9, 1; 5, 4); 0 reaps 9, 1 reaps 5; then the swap.
        int[] counts = {2, 3, 2, 2, 1, 1, 14, 3, 12, 14, 3, 1, 2, 9, 3};
        for (int what = 0; what < counts.length; what++) {
            due("count(" + what + ")", x.count(what), counts[what]);
        }
        due("count(15)", x.count(15), -1);
        due("count(-1)", x.count(-1), -1);
        due("count(min)", x.count(Integer.MIN_VALUE), -1);
    }

    private static void promise32() {
        promise = 32;
        SunTable x = new SunTable();
        due("image(-1)", x.image(-1), -1);
        due("image(4)", x.image(4), -1);
        due("without a table", x.image(3), 0);
        Texts.table(x, "table 1 1;land 1 1 1");
        x.week();
        x.week();
        due("the week", x.image(0), 2);
        due("made again", x.image(0), 2);
        due("no act", x.count(12), 2);
    }

    private static void promise33() {
        promise = 33;
        SunTable x = with("table 2 3;land 9 1 20;land 5 4 6;sun 1 7", "buy 1");
        due("never made", x.back(1), -1);
        due("back(-1)", x.back(-1), -1);
        due("back(4)", x.back(4), -1);
        x.force(0);
        x.seed(9);
        x.note(0, 0, 1);
        x.week();
        x.set(4);
        x.image(1);
        int[] were = new int[15];
        for (int what = 0; what < 15; what++) {
            were[what] = x.count(what);
        }
        x.week();
        x.undo();
        x.undo();
        x.undo();
        x.note(-1, 0, 0);
        x.seed(1);
        x.force(-1);
        Texts.rule(x, "buy 2");
        Texts.table(x, "table 9 9;land 1 1 1;sun 0 3");
        x.image(2);
        Texts.put(x, "ab");
        due("the week", x.back(1), 1);
        were[3] = 2;
        were[14] = 2;
        for (int what = 0; what < 15; what++) {
            due("count(" + what + ")", x.count(what), were[what]);
        }
        due("told again", x.told(1, 7), 1);
        due("not told now", x.told(0, 3), 0);
        due("bought in the week ahead", x.land(0, 5), 1);
        due("undone: the rate", x.undo(), 1);
        due("the rate", x.count(0), 2);
        due("undone: the week", x.undo(), 0);
        dueLand("as at first", x, 0, 9, 1, 20, 0);
        due("ruled as noted", x.ruled(0), 2);
        due("the other image stays", x.back(2), 0);
        due("its rate", x.count(0), 9);
        due("gone back to again", x.back(1), 1);
        due("the image was not undone", x.count(12), 2);
    }
}
