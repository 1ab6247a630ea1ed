/** Promises 26 to 30: NOTES, by which RULE they were so, where to look next, DRAWS and SUMMERS. */
final class NoteSentences {
    private static final int LEAST = Integer.MIN_VALUE;
    private static final int MOST = Integer.MAX_VALUE;
    /** Sun comes to LAND 0 in WEEK 59 alone, and it reaps then. */
    private static final String WEEK_59 = "table 9 0;land 3 0 99;sun 0 59";

    private NoteSentences() {
    }

    /** LAND 0 can buy from LAND 1 in the first and in the last week; without hay it does so by rules alone. */
    private static SunTable firstAndLast() {
        return Held.with("table 1 0;land 9 0 0;land 0 0 0;sun 1 0;sun 1 60", "buy 1 if land=0 and week=0",
            "buy 1 if land=0 and week=60", "buy 0");
    }

    private static void dueRuled(String what, SunTable x, int many, int first) {
        Held.due(what + ": how many", x.ruled(0), many);
        Held.due(what + ": the first", x.ruled(1), first);
    }

    private static void dueLook(String what, SunTable x, int n, int land, int many) {
        Held.due(what + ": the land", x.look(n, 0), land);
        Held.due(what + ": how many", x.look(n, 1), many);
    }

    // ---- promise 26

    @Sentence(promise = 26, says = "A NOTE (n NONE: there are none then, 0): how many;")
    static void p26HowMany() {
        SunTable x = firstAndLast();
        Held.due("the first", x.note(0, 0, 1), 1);
        Held.due("the same again is one more", x.note(0, 0, 1), 2);
        Held.due("one of nobody", x.note(0, 1, -1), 3);
        Held.due("none then", x.note(-1, 0, 1), 0);
        Held.due("notes", x.count(11), 0);
        Held.due("none of none", x.note(-1, LEAST, MOST), 0);
        Held.due("the first again", x.note(0, 0, 1), 1);
        Held.due("without a table", new SunTable().note(-1, 0, 0), 0);
    }

    @Sentence(promise = 26, says =
        "NOTES 0 to 9, told: in the n-th WEEK of all (0 to 60) a LAND bought from another one, or from nobody "
        + "(NONE).")
    static void p26WeeksAtTheirLimits() {
        SunTable x = firstAndLast();
        Held.due("week -1 is none of them, but NONE", x.note(-1, 0, 1), 0);
        Held.due("week -2", x.note(-2, 0, 1), -2);
        Held.due("week 0", x.note(0, 0, 1), 1);
        dueRuled("by 0", x, 1, 0);
        x.note(-1, 0, 0);
        Held.due("week 60", x.note(60, 0, 1), 1);
        dueRuled("by 1", x, 1, 1);
        Held.due("week 61", x.note(61, 0, 1), -2);
        Held.due("notes", x.count(11), 1);
        x.note(-1, 0, 0);
        Held.weeks(x, 3);
        Held.due("of all, not from now on", x.note(0, 0, 1), 1);
        dueRuled("by 0", x, 1, 0);
    }

    @Sentence(promise = 26, says = "a LAND bought from another one")
    static void p26EachLandFromEachOther() {
        for (int land = 0; land <= 4; land++) {
            for (int other = 0; other <= 4; other++) {
                if (land != other) {
                    SunTable x = Held.with("table 1 9;land 9 1 0;land 9 1 0;land 9 1 0;land 9 1 0;land 9 1 0",
                        "buy 1 if land=" + land + " and other=" + other);
                    Held.due("a note", x.note(0, land, other), 1);
                    dueRuled(land + " from " + other, x, 1, 0);
                    Held.due("from another one", x.note(0, land, land == 0 && other == 1 ? 2 : land == 0 ? 1 : -1), 2);
                    dueRuled("not both", x, 0, -2);
                }
            }
        }
    }

    @Sentence(promise = 26, says = "or from nobody (NONE)")
    static void p26FromNobody() {
        SunTable x = firstAndLast();
        Held.due("nobody", x.note(60, 0, -1), 1);
        dueRuled("all but 1", x, 3, -1);
        Held.due("nobody", x.note(0, 0, -1), 2);
        dueRuled("none and 2", x, 2, -1);
    }

    @Sentence(promise = 26, says = "-2, and nothing happens, without these (unlike; other NONE: nobody),")
    static void p26WithoutThese() {
        SunTable x = firstAndLast();
        x.note(0, 0, 1);
        int[] was = Held.seen(x);
        Held.due("alike", x.note(0, 0, 0), -2);
        Held.due("alike", x.note(0, 1, 1), -2);
        Held.due("a land too high", x.note(0, 2, 1), -2);
        Held.due("a land too high", x.note(0, 2, -1), -2);
        Held.due("below 0", x.note(0, -1, 1), -2);
        Held.due("nobody bought from nobody", x.note(0, -1, -1), -2);
        Held.due("the other one too high", x.note(0, 0, 2), -2);
        Held.due("the other one below NONE", x.note(0, 0, -2), -2);
        Held.due("the least", x.note(LEAST, 0, 1), -2);
        Held.due("the most", x.note(MOST, 0, 1), -2);
        Held.due("the least land", x.note(0, LEAST, 1), -2);
        Held.due("the most land", x.note(0, MOST, 1), -2);
        Held.due("the least other", x.note(0, 0, LEAST), -2);
        Held.due("the most other", x.note(0, 0, MOST), -2);
        Held.dueSame("behind these", x, was);
        dueRuled("the one note stays", x, 1, 0);
        Held.due("no lands", Held.with("table 1 1").note(0, 0, -1), -2);
        Held.due("no table", new SunTable().note(0, 0, -1), -2);
    }

    @Sentence(promise = 26, says = "or if there are 10.")
    static void p26TenAtMost() {
        SunTable x = firstAndLast();
        for (int i = 1; i <= 9; i++) {
            Held.due("note " + i, x.note(i, 0, -1), i);
        }
        dueRuled("nine that are so by all", x, 4, -1);
        Held.due("the tenth", x.note(60, 0, 1), 10);
        dueRuled("the tenth counts", x, 1, 1);
        Held.due("an eleventh", x.note(0, 0, 1), -2);
        Held.due("notes", x.count(11), 10);
        dueRuled("it does not count", x, 1, 1);
        Held.due("a wrong one", x.note(61, 0, 1), -2);
        Held.due("none then", x.note(-1, 0, 0), 0);
        dueRuled("no notes", x, 4, -1);
    }

    // ---- promise 27

    @Sentence(promise = 27, says =
        "RULED: which of the RULES, and of none, so that from the begin on, all as the text told it, all "
        + "NOTES are so:")
    static void p27FromTheBeginOn() {
        SunTable x = Held.with("table 1 0;land 9 0 9;land 0 1 0;land 0 1 0;sun 1 1;sun 2 1;sun 2 1", "buy other",
            "buy 0",
            "buy 3-other", "buy theirsun if land=0");
        x.note(0, 0, 1);
        dueRuled("none, 2 and 3", x, 3, -1);
        x.note(1, 0, 1);
        dueRuled("2 alone: none and 3 would buy from 2", x, 1, 2);
        // What is done by hand, what is set and what is in force counts for nothing.
        x.set(9);
        x.force(1);
        x.give(0, 1, 9);
        x.week();
        dueRuled("the same", x, 1, 2);
        x.undo();
        x.undo();
        dueRuled("the same", x, 1, 2);
    }

    @Sentence(promise = 27, says = "from the begin on, all as the text told it")
    static void p27ByTheRateThatWasTold() {
        SunTable x = Held.with("table 5 0;land 4 0 9;land 5 0 9;land 0 1 0");
        x.note(0, 0, -1);
        x.note(0, 1, 2);
        dueRuled("four men are too few, five enough", x, 1, -1);
        x.set(4);
        dueRuled("by the rate told", x, 1, -1);
        x.note(-1, 0, 0);
        x.note(0, 0, 2);
        dueRuled("not by the rate set", x, 0, -2);
        x.image(0);
        x.back(0);
        dueRuled("in an image neither", x, 0, -2);
    }

    @Sentence(promise = 27, says = "how many; the first (none ahead of 0, told as NONE).")
    static void p27NoneAheadOf0() {
        SunTable x = Held.with("table 1 0;land 9 0 9;land 0 1 0", "buy 1 if land=0", "buy 1 if land=0");
        dueRuled("no notes: all three", x, 3, -1);
        x.note(0, 0, 1);
        dueRuled("all three", x, 3, -1);
        x = Held.with("table 1 0;land 9 0 0;land 0 1 0", "buy 1 if land=0", "buy 1 if land=0");
        x.note(0, 0, 1);
        dueRuled("the two, 0 the first", x, 2, 0);
        Held.due("no rules are told", Held.with("table 1 0;land 9 0 9").ruled(0), 1);
        Held.due("none is the first", Held.with("table 1 0;land 9 0 9").ruled(1), -1);
    }

    @Sentence(promise = 27, says = "RULED what 0: how many, 1: the first (NONE: none; -2: there is none such).")
    static void p27SixRulesAndNoneSuch() {
        SunTable x = Held.with("table 1 0;land 9 0 0;land 0 1 0", "buy 0", "buy 0", "buy 0", "buy 0", "buy 0",
            "buy 1 if land=0");
        dueRuled("all seven", x, 7, -1);
        x.note(0, 0, 1);
        dueRuled("the last alone", x, 1, 5);
        x.note(1, 0, 1);
        dueRuled("none such", x, 0, -2);
        x = Held.with("table 1 1");
        dueRuled("no lands", x, 1, -1);
    }

    @Sentence(promise = 27, says = "-3 for others, or without a TABLE.")
    static void p27Others() {
        SunTable x = firstAndLast();
        Held.due("what -1", x.ruled(-1), -3);
        Held.due("what 2", x.ruled(2), -3);
        Held.due("the least", x.ruled(LEAST), -3);
        Held.due("the most", x.ruled(MOST), -3);
        x = new SunTable();
        Texts.rule(x, "buy 1");
        Held.due("no table", x.ruled(0), -3);
        Held.due("no table", x.ruled(1), -3);
    }

    // ---- promise 28

    @Sentence(promise = 28, says =
        "LOOK for the n-th WEEK: the LAND by from whom it buys these part best: the most alike are fewest,")
    static void p28TheMostAlikeAreFewest() {
        SunTable x = Held.with("table 1 0;land 9 0 9;land 9 3 0;land 9 3 0", "buy other if land=0", "buy 0",
            "buy 3-other",
            "buy 1 if other=1");
        // 0 buys from 1, 2, nobody, 1 and 1: three alike. 1 from nobody but by one. 2 from 1 by two of five.
        dueLook("three of five", x, 0, 0, 3);
        x.note(0, 0, 1);
        // Of the three that are left 0 buys from 1 by all, 1 and 2 part them in two and one.
        dueLook("two of three", x, 0, 1, 2);
        dueLook("sun is gone: all three alike", x, 1, 0, 3);
    }

    @Sentence(promise = 28, says = "of several the least; how many.")
    static void p28OfSeveralTheLeast() {
        SunTable x = Held.with("table 1 0;land 9 1 0;land 9 1 0", "buy 1", "buy 0");
        // By 0 both buy from one another; by none and 1 nobody buys.
        dueLook("both part in two and one", x, 0, 0, 2);
        x.note(0, 0, -1);
        dueLook("none and 1 are alike", x, 0, 0, 2);
        x = Held.with("table 1 0;land 9 1 0;land 9 1 0", "buy 1 if land=1", "buy 0");
        dueLook("land 1 alone parts them", x, 0, 1, 2);
        // Nobody is one like the others: 4 of land 1 by one rule, 1 of it by another one, none by a third.
        x = Held.with("table 1 0;land 9 1 0;land 9 1 0;land 9 1 0", "buy other if land=0", "buy 3-other if land=0",
            "buy 0");
        dueLook("two of nobody, one of each", x, 0, 0, 2);
        Held.due("no rules but none", Held.with("table 1 0;land 9 1 0").look(0, 1), 1);
    }

    @Sentence(promise = 28, says = "LOOK (n 0 to 60) what 0: the LAND, 1: how many;")
    static void p28WeeksAtTheirLimits() {
        SunTable x = firstAndLast();
        Held.due("week -1", x.look(-1, 1), -1);
        dueLook("week 0", x, 0, 0, 3);
        dueLook("week 1", x, 1, 0, 4);
        dueLook("week 59", x, 59, 0, 4);
        dueLook("week 60", x, 60, 0, 3);
        Held.due("week 61", x.look(61, 1), -1);
        x.note(60, 0, 1);
        dueLook("ahead of the note's week", x, 0, 0, 1);
        x.note(-1, 0, 0);
        x.note(0, 0, -1);
        dueLook("behind the note's week", x, 60, 0, 2);
        Held.weeks(x, 4);
        dueLook("of all, not from now on", x, 0, 0, 3);
    }

    @Sentence(promise = 28, says = "the most alike are fewest")
    static void p28SevenAlikeAndFiveLands() {
        String five = "table 1 0;land 9 1 0;land 9 1 0;land 9 1 0;land 9 1 0;land 9 1 0";
        SunTable x = Held.with(five, "buy 0", "buy 0", "buy 0", "buy 0", "buy 0", "buy 0");
        dueLook("all seven alike", x, 0, 0, 7);
        dueLook("all seven alike, at the end", x, 60, 0, 7);
        x = Held.with(five, "buy 0", "buy 0", "buy 0", "buy 0", "buy 0", "buy 1 if land=4");
        dueLook("the last land by the last rule", x, 0, 4, 6);
        x = Held.with(five, "buy 1 if land=4", "buy 2-other%2 if land=4", "buy other if land=4",
            "buy 0-other+9 if land=4 and other=2",
            "buy 1 if land=3", "buy other if land=3");
        // 4 buys from nobody by three, from 0 by two, from 3 and from 2 by one; 3 from nobody by five.
        dueLook("three of seven", x, 0, 4, 3);
    }

    @Sentence(promise = 28, says = "-2: no RULE is so, or there are no LANDS.")
    static void p28NoRuleIsSoOrNoLands() {
        SunTable x = firstAndLast();
        x.note(5, 0, 1);
        dueLook("no rule is so", x, 0, -2, -2);
        dueLook("no rule is so, at the end", x, 60, -2, -2);
        dueLook("no lands", Held.with("table 1 1"), 0, -2, -2);
        Held.due("no such week comes first", Held.with("table 1 1").look(61, 0), -1);
    }

    @Sentence(promise = 28, says = "NONE without these, or a TABLE.")
    static void p28WithoutThese() {
        SunTable x = firstAndLast();
        Held.due("what -1", x.look(0, -1), -1);
        Held.due("what 2", x.look(0, 2), -1);
        Held.due("the most what", x.look(0, MOST), -1);
        Held.due("the least week", x.look(LEAST, 0), -1);
        Held.due("the most week", x.look(MOST, 0), -1);
        Held.due("no table", new SunTable().look(0, 0), -1);
    }

    // ---- promise 29

    @Sentence(promise = 29, says = "x becomes a number: what it was;")
    static void p29WhatItWas() {
        SunTable x = new SunTable();
        Held.due("0 at first", x.seed(1), 0);
        Held.due("then one", x.seed(MOST), 1);
        Held.due("count(13)", x.count(13), MOST);
        Held.due("the most", x.seed(0), MOST);
        Held.due("none", x.seed(0), 0);
    }

    @Sentence(promise = 29, says = "NONE, and nothing happens, below 0.")
    static void p29BelowZero() {
        SunTable x = new SunTable();
        x.seed(7);
        Held.due("-1", x.seed(-1), -1);
        Held.due("the least", x.seed(LEAST), -1);
        Held.due("x", x.count(13), 7);
    }

    // ---- promise 30

    private static long next(long x) {
        return (x * 1103515245L + 12345L) % 2147483648L;
    }

    @Sentence(promise = 30, says =
        "DRAWS: x (0 to 2147483647; 0 at first) becomes x * 1103515245 + 12345, of 2147483648 the rest; a "
        + "DRAW is x / 65536.")
    static void p30DrawsByTheLimitsOfX() {
        for (int seed : new int[] {0, 1, 65535, 65536, 1073741823, 1073741824, MOST - 1, MOST}) {
            // Five lands that reap 1, 2, 4, 8 and 16 tell which one had the sun.
            SunTable x = Held.with("table 9 0;land 1 0 50;land 2 0 50;land 4 0 50;land 8 0 50;land 16 0 50", "buy 0");
            x.force(0);
            x.seed(seed);
            int draw = (int) (next(seed) / 65536 % 100);
            int land = (int) (next(next(seed)) / 65536 % 5);
            Held.due("x " + seed + ", below", x.summers(1, 1, draw + 1, 0), 1 << land);
            Held.due("x " + seed + ", not below", x.summers(1, 1, draw, 0), 0);
            Held.due("x as it was", x.count(13), seed);
        }
        SunTable x = Held.with("table 9 0;land 1 0 50;land 2 0 50;land 4 0 50");
        // 12345 / 65536 is 0; then 1406932606 / 65536 is 21468, whose rest of 3 is 0.
        Held.due("0 at first", x.summers(1, 1, 1, 0), 1);
        // x is the most: 1043980748 / 65536 is 15929, of which 29 is the rest.
        x.seed(MOST);
        Held.due("29 is not below 29", x.summers(1, 1, 29, 0), 0);
        Held.check(x.summers(1, 1, 30, 0) > 0, "29 is below 30");
    }

    @Sentence(promise = 30, says = "SUMMERS m times (1 to 10) n WEEKS (1 to 60) from now on:")
    static void p30TimesAndWeeksAtTheirLimits() {
        SunTable x = Held.with(WEEK_59);
        Held.due("once 60 weeks", x.summers(1, 60, 0, 0), 3);
        Held.due("once 59", x.summers(1, 59, 0, 0), 0);
        Held.due("once 61", x.summers(1, 61, 0, 0), -1);
        Held.due("once none", x.summers(1, 0, 0, 0), -1);
        Held.due("ten times", x.summers(10, 60, 0, 0), 30);
        Held.due("nine times", x.summers(9, 60, 0, 0), 27);
        Held.due("eleven times", x.summers(11, 60, 0, 0), -1);
        Held.due("no time", x.summers(0, 60, 0, 0), -1);
        x = Held.with("table 9 0;land 3 1 99");
        Held.due("once one week", x.summers(1, 1, 0, 0), 3);
        x.week();
        Held.due("from now on: no sun, but a barn", x.summers(1, 1, 0, 0), 3);
        Held.due("from now on each time", x.summers(2, 1, 0, 0), 6);
    }

    @Sentence(promise = 30, says = "ahead of each a DRAW mod 100; is it below p (0 to 100),")
    static void p30BelowP() {
        SunTable x = Held.with("table 9 0;land 3 0 99");
        Held.due("p -1", x.summers(1, 1, -1, 0), -1);
        Held.due("0 is not below 0", x.summers(1, 1, 0, 0), 0);
        Held.due("0 is below 1", x.summers(1, 1, 1, 0), 3);
        Held.due("p 101", x.summers(1, 1, 101, 0), -1);
        int seed = 0;
        for (int i = 0; i < 100000 && next(seed) / 65536 % 100 != 99; i++) {
            seed++;
        }
        x.seed(seed);
        Held.due("99 is not below 99", x.summers(1, 1, 99, 0), 0);
        Held.due("99 is below 100", x.summers(1, 1, 100, 0), 3);
        x.seed(0);
        Held.due("ahead of each of 60 weeks: hay for 33 of them", x.summers(1, 60, 100, 0), 99);
        Held.due("ahead of none", x.summers(1, 60, 0, 0), 0);
    }

    @Sentence(promise = 30, says = "and are there LANDS, a DRAW mod how many: one SUN more comes to it")
    static void p30WhichLand() {
        // Draws by x = 0: 0, 21468, 9988, 22117, 3498, 16927.
        SunTable x = Held.with("table 9 9;land 1 0 50;land 2 0 50;land 4 0 50");
        Held.due("week 0: land 0", x.summers(1, 1, 100, 0), 1);
        Held.due("week 1: land 1", x.summers(1, 2, 100, 0), 1 + 2);
        Held.due("week 1: 88 is not below 88, no second draw", x.summers(1, 3, 88, 0), summer(3, 88));
        Held.due("two times", x.summers(2, 1, 100, 0), 1 + 2);
        Held.due("one land alone", Held.with("table 9 9;land 7 0 50").summers(1, 1, 100, 0), 7);
        SunTable none = Held.with("table 1 1");
        for (int p : new int[] {0, 1, 100}) {
            Held.due("no lands", none.summers(10, 60, p, 0), 0);
            Held.due("no lands", none.summers(10, 60, p, 1), 0);
        }
    }

    /** One, two and four men reap by what is drawn alone: each sun is used at once. */
    private static int summer(int n, int p) {
        long x = 0;
        int full = 0;
        for (int i = 0; i < n; i++) {
            x = next(x);
            if (x / 65536 % 100 < p) {
                x = next(x);
                full += 1 << x / 65536 % 3;
            }
        }
        return full;
    }

    @Sentence(promise = 30, says = "comes to it (99 at most): how full")
    static void p30AtMost99() {
        String table = "table 1 0;land 9 0 20;land 9 0 0";
        // The draws 0 and 21468 give it to land 0; land 1 buys if it sees more.
        SunTable x = Held.by("buy theirsun-98 if land=1", table);
        Inside.sun(x, 0, 98);
        Held.due("99", x.summers(1, 1, 100, 1), 1);
        x = Held.by("buy theirsun-99 if land=1", table);
        Inside.sun(x, 0, 99);
        Held.due("never a hundred", x.summers(1, 1, 100, 1), 0);
    }

    @Sentence(promise = 30, says =
        "how full all BARNS are at the end; how often anybody BUYS in these, all together (x as it was).")
    static void p30AllTogether() {
        SunTable x = Held.with("table 1 9;land 5 0 50;land 5 0 0");
        // Draws by x = 0: land 0 has the first sun; 22117 % 2 = 1: land 1 has the second, and 0 buys it.
        Held.due("nobody buys", x.summers(1, 1, 100, 1), 0);
        Held.due("five reap", x.summers(1, 1, 100, 0), 5);
        Held.due("then one buys", x.summers(1, 2, 100, 1), 1);
        Held.due("five and four reap", x.summers(1, 2, 100, 0), 9);
        Held.due("two times one week: one buys", x.summers(2, 1, 100, 1), 1);
        Held.due("five, and four", x.summers(2, 1, 100, 0), 9);
        Held.due("x as it was", x.count(13), 0);
        Held.due("the same again", x.summers(2, 1, 100, 0), 9);
        Held.due("nothing was bought", x.count(10), 0);
        x = Held.by("buy 1", "table 1 9;land 9 1 0;land 9 1 0");
        Held.due("both, in each of 60 weeks, ten times", x.summers(10, 60, 0, 1), 2 * 60 * 10);
        x.week();
        Held.due("in these alone", x.summers(1, 1, 0, 1), 2);
    }

    @Sentence(promise = 30, says = {"SUMMERS what 0: how full, 1: how often.", "NONE without these, or a TABLE."})
    static void p30WithoutThese() {
        SunTable x = Held.with("table 9 0;land 3 1 99");
        Held.due("what -1", x.summers(1, 1, 1, -1), -1);
        Held.due("what 2", x.summers(1, 1, 1, 2), -1);
        Held.due("the most what", x.summers(1, 1, 1, MOST), -1);
        Held.due("times below 0", x.summers(-1, 1, 1, 0), -1);
        Held.due("the most times", x.summers(MOST, 1, 1, 0), -1);
        Held.due("the least weeks", x.summers(1, LEAST, 1, 0), -1);
        Held.due("the most weeks", x.summers(1, MOST, 1, 0), -1);
        Held.due("the least p", x.summers(1, 1, LEAST, 0), -1);
        Held.due("the most p", x.summers(1, 1, MOST, 0), -1);
        Held.due("no table", new SunTable().summers(1, 1, 1, 0), -1);
        Held.due("no table", new SunTable().summers(1, 1, 1, 1), -1);
    }
}
