/** Promises 15, 16 and 19 to 21: how it goes on, bare fields, quiet, what men are worth, the least sun. */
final class AheadSentences {
    private static final int LEAST = Integer.MIN_VALUE;
    private static final int MOST = Integer.MAX_VALUE;
    /** One sun without men, then 99 weeks of rain: the hay is gone behind 100 weeks. */
    private static final String HUNDRED = "table 9 0;land 0 1 99;land 0 0 99";

    private AheadSentences() {
    }

    /** Sun comes to LAND 0 in WEEK 59 alone, and it reaps then. */
    private static final String WEEK_59 = "table 9 0;land 3 0 99;sun 0 59";

    // ---- all that is asked

    @Sentence(promise = 15, says = "(By what is asked nothing changes;")
    static void p15ByWhatIsAskedNothingChanges() {
        SunTable x = Held.with("table 1 3;land 9 1 40;land 5 4 36;land 3 2 30;sun 1 3;sun 0 60", "buy theirsun",
            "buy 1");
        x.force(0);
        x.seed(12345);
        x.note(0, 0, 1);
        x.week();
        x.give(0, 1, 2);
        x.image(0);
        Texts.put(x, "buy");
        int[] was = Held.seen(x);
        int sum = 0;
        for (int what = 0; what <= 4; what++) {
            sum += x.land(1, what) + x.told(1, 3) + x.ahead(1, 100, what) + x.row(what % 3, 4, what) + x.best(60, what)
                + x.game(0, 1, 4, what) + x.shun(60, what) + x.mother(60, what) + x.ruled(what) + x.look(60, what)
                + x.summers(10, 60, 50, what) + x.parts(9999, what) + x.bare(what) + x.need(what, 90, 60)
                + x.worth(what, 99, 60) + x.quiet();
        }
        Held.check(sum != 0, "nothing was asked");
        Held.dueSame("behind all these", x, was);
        Held.due("the week goes as if nothing had been asked", x.week(), 3);
        Held.due("undo", x.undo(), 2);
        Held.due("undo", x.undo(), 1);
        Held.due("undo", x.undo(), 0);
        Held.dueLand("as told", x, 0, 9, 1, 40, 0);
        Held.due("the image is as it was", x.back(0), 1);
    }

    /** What questions of all kinds answer, the last ones first if that is wished. */
    private static int[] answers(SunTable x, boolean backwards) {
        int[] all = new int[17];
        for (int i = 0; i < all.length; i++) {
            int k = backwards ? all.length - 1 - i : i;
            all[k] = answer(x, k);
        }
        return all;
    }

    private static int answer(SunTable x, int k) {
        switch (k) {
            case 0: return x.ahead(0, 7, 3);
            case 1: return x.bare(1);
            case 2: return x.row(1, 3, 0);
            case 3: return x.row(1, 3, 1);
            case 4: return x.best(9, 0);
            case 5: return x.best(9, 1);
            case 6: return x.quiet();
            case 7: return x.worth(0, 9, 9);
            case 8: return x.need(1, 30, 9);
            case 9: return x.game(2, 0, 4, 0);
            case 10: return x.shun(9, 1);
            case 11: return x.shun(9, 2);
            case 12: return x.mother(9, 1);
            case 13: return x.ruled(0);
            case 14: return x.look(0, 1);
            case 15: return x.summers(3, 9, 60, 0);
            default: return x.summers(3, 9, 60, 1);
        }
    }

    private static SunTable toAsk() {
        SunTable x = Held.with("table 1 3;land 9 1 40;land 5 4 36;land 3 2 30;sun 1 3;sun 0 60",
            "buy theirsun if hay>0", "buy 1");
        x.force(0);
        x.note(0, 0, 1);
        return x;
    }

    @Sentence(promise = 15, says = "By what is asked nothing changes")
    static void p15WhatIsAskedTurnsNoOtherAnswer() {
        SunTable x = toAsk();
        int[] first = answers(x, false);
        int[] then = answers(x, true);
        for (int k = 0; k < first.length; k++) {
            Held.due("question " + k + " of a new object", answer(toAsk(), k), first[k]);
            Held.due("question " + k + " again", then[k], first[k]);
        }
    }

    @Sentence(promise = 15, says = "WEEKS go on by the RULE IN FORCE, beyond 999, too.)")
    static void p15BeyondWeek999() {
        SunTable x = Held.with("table 1 9;land 9 0 50;land 0 9 0", "buy 1 if land=0 and week=1000",
            "buy 1 if land=0 and week<1005");
        Inside.week(x, 999);
        x.force(0);
        Held.due("week 999: rain", x.ahead(0, 1, 2), 49);
        Held.due("week 1000: it buys and reaps", x.ahead(0, 2, 3), 8);
        Held.due("week 1001: rain", x.ahead(0, 3, 2), 40);
        Held.due("bare behind 41 weeks of rain from 1001 on", x.bare(0), 1042);
        Held.due("quiet behind week 1000", x.quiet(), 1001);
        x.force(1);
        Held.due("quiet from week 1005 on", x.quiet(), 1005);
        Held.due("it is week 999", x.count(5), 999);
        Held.due("no week by hand", x.week(), -1);
    }

    @Sentence(promise = 15, says = "WEEKS go on by the RULE IN FORCE")
    static void p15ByTheRuleInForce() {
        SunTable x = Held.with("table 1 9;land 5 0 50;land 0 9 0", "buy 0", "buy 1 if land=0");
        x.force(0);
        Held.due("it never buys", x.ahead(0, 9, 2), 41);
        x.force(1);
        Held.due("it buys each week", x.ahead(0, 3, 3), 4 + 3 + 2);
        x.force(-1);
        Held.due("it buys as it has none", x.ahead(0, 3, 3), 4 + 3 + 2);
    }

    // ---- promise 15

    @Sentence(promise = 15, says = "AHEAD n WEEKS (0 to 100): MEN, SUN, HAY, BARN of a LAND.")
    static void p15NoneTo100Weeks() {
        SunTable x = Held.with(HUNDRED);
        Held.due("-1", x.ahead(0, -1, 2), -1);
        Held.due("now", x.ahead(0, 0, 2), 99);
        Held.due("one", x.ahead(0, 1, 2), 99);
        Held.due("two", x.ahead(0, 2, 2), 98);
        Held.due("99", x.ahead(0, 99, 2), 1);
        Held.due("100", x.ahead(0, 100, 2), 0);
        Held.due("101", x.ahead(0, 101, 2), -1);
    }

    @Sentence(promise = 15, says = "AHEAD what 0: MEN, 1: SUN, 2: HAY, 3: BARN.")
    static void p15What() {
        SunTable x = Held.with("table 2 3;land 9 0 30;land 8 7 0;sun 0 1;sun 1 0");
        // Week 0: 0 buys from 1 and reaps seven; 1 has seven suns left, of which three keep.
        int[][] of0 = {{9, 0, 30, 0}, {7, 0, 23, 7}, {7, 0, 16, 14}};
        int[][] of1 = {{8, 7, 0, 0}, {10, 3, 0, 0}, {10, 3, 0, 0}};
        for (int n = 0; n < of0.length; n++) {
            for (int what = 0; what <= 3; what++) {
                Held.due("ahead(0, " + n + ", " + what + ")", x.ahead(0, n, what), of0[n][what]);
                Held.due("ahead(1, " + n + ", " + what + ")", x.ahead(1, n, what), of1[n][what]);
            }
        }
    }

    @Sentence(promise = 15, says = "NONE without these.")
    static void p15WithoutThese() {
        SunTable x = Held.with(HUNDRED);
        Held.due("a land too high", x.ahead(2, 1, 2), -1);
        Held.due("below 0", x.ahead(-1, 1, 2), -1);
        Held.due("the most", x.ahead(MOST, 1, 2), -1);
        Held.due("the least", x.ahead(LEAST, 1, 2), -1);
        Held.due("what 4", x.ahead(0, 1, 4), -1);
        Held.due("what -1", x.ahead(0, 1, -1), -1);
        Held.due("the most", x.ahead(0, 1, MOST), -1);
        Held.due("the most weeks", x.ahead(0, MOST, 2), -1);
        Held.due("the least weeks", x.ahead(0, LEAST, 2), -1);
        Held.due("no lands", Held.with("table 1 1").ahead(0, 0, 0), -1);
        Held.due("no table", new SunTable().ahead(0, 0, 0), -1);
    }

    // ---- promise 16

    @Sentence(promise = 16, says =
        "BARE of a LAND: the first WEEK, this one the first, of 100, at whose begin it has no HAY.")
    static void p16TheFirstOf100() {
        SunTable x = Held.with("table 9 0;land 0 0 0;land 0 0 1;land 0 0 98;land 0 0 99;land 0 1 99");
        Held.due("now", x.bare(0), 0);
        Held.due("behind this week", x.bare(1), 1);
        Held.due("the last but one", x.bare(2), 98);
        Held.due("the last of 100", x.bare(3), 99);
        Held.due("one too late", x.bare(4), -2);
        x.week();
        Held.due("bare is bare in this week", x.bare(0), 1);
        Held.due("this week", x.bare(1), 1);
        Held.due("the same week", x.bare(3), 99);
        Held.due("the last of 100 from now on", x.bare(4), 100);
        Held.weeks(x, 97);
        Held.due("soon", x.bare(2), 98);
        Held.due("soon", x.bare(3), 99);
        Held.weeks(x, 3);
        Held.due("bare since long", x.bare(2), 101);
    }

    @Sentence(promise = 16, says = "BARE; -2: at none of these;")
    static void p16AtNoneOfThese() {
        // Four suns without men keep the hay for four weeks.
        SunTable x = Held.with("table 9 9;land 0 4 99;land 0 1 99;land 0 0 99");
        Held.due("behind 103 weeks", x.bare(0), -2);
        Held.due("behind 100 weeks", x.bare(1), -2);
        Held.due("behind 99 weeks", x.bare(2), 99);
        Held.weeks(x, 3);
        Held.due("still one too late", x.bare(0), -2);
        x.week();
        Held.due("now within 100", x.bare(0), 103);
    }

    @Sentence(promise = 16, says = "NONE without that LAND.")
    static void p16WithoutThatLand() {
        SunTable x = Held.with(HUNDRED);
        Held.due("below 0", x.bare(-1), -1);
        Held.due("too high", x.bare(2), -1);
        Held.due("the least", x.bare(LEAST), -1);
        Held.due("the most", x.bare(MOST), -1);
        Held.due("no lands", Held.with("table 1 1").bare(0), -1);
        Held.due("no table", new SunTable().bare(0), -1);
    }

    // ---- promise 19

    @Sentence(promise = 19, says =
        "QUIET: the first WEEK, this one the first, of 60, in which, and in the 4 behind it, nobody BUYS.")
    static void p19FiveWeeksOf60() {
        String table = "table 1 9;land 9 1 0;land 9 1 0";
        SunTable x = Held.by("buy 1 if week<59", table);
        Held.due("the last of 60", x.quiet(), 59);
        x = Held.by("buy 1 if week<60", table);
        Held.due("one too late", x.quiet(), -2);
        x.week();
        Held.due("a week later it is the last", x.quiet(), 60);
        x = Held.by("buy 1 if week=4", table);
        Held.due("four quiet weeks are not enough", x.quiet(), 5);
        x = Held.by("buy 1 if week=5", table);
        Held.due("five are, this one the first", x.quiet(), 0);
        x.week();
        Held.due("four are left: then behind it", x.quiet(), 6);
        x = Held.by("buy 1 if week%5=0", table);
        Held.due("never five", x.quiet(), -2);
        x = Held.by("buy 1 if week%6=0", table);
        Held.due("five of six", x.quiet(), 1);
        // All of weeks 59 to 63 must be quiet.
        x = Held.by("buy 1 if week<59 or week=63", table);
        Held.due("week 63 is not quiet", x.quiet(), -2);
        x = Held.by("buy 1 if week<59 or week=64", table);
        Held.due("week 64 is not asked for", x.quiet(), 59);
    }

    @Sentence(promise = 19, says = "nobody BUYS")
    static void p19AnybodyBuys() {
        SunTable x = Held.by("buy 1 if land=4 and week<7",
            "table 1 9;land 0 9 0;land 0 0 0;land 0 0 0;land 0 0 0;land 9 0 0");
        Held.due("the last land alone buys", x.quiet(), 7);
        x = Held.with("table 1 9;land 0 9 0;land 3 0 99");
        Held.due("until it has no men left", x.quiet(), 3);
    }

    @Sentence(promise = 19, says = {"QUIET; -2: in none of these;", "NONE without a TABLE."})
    static void p19NoneAndNoTable() {
        SunTable x = Held.by("buy 1", "table 1 9;land 9 1 0;land 9 1 0");
        Held.due("never", x.quiet(), -2);
        Held.due("no table", new SunTable().quiet(), -1);
        Held.due("no lands", Held.with("table 1 1").quiet(), 0);
        x = Held.with("table 1 1");
        Held.weeks(x, 7);
        Held.due("no lands, a week later", x.quiet(), 7);
    }

    // ---- promise 20

    @Sentence(promise = 20, says =
        "WORTH of MEN (1 to 99) more for a LAND now (999 at most), for n WEEKS (1 to 60): its BARN then less "
        + "what it would be without these.")
    static void p20MenAndWeeksAtTheirLimits() {
        SunTable x = Held.with(WEEK_59);
        Held.due("in 60 weeks a man more reaps one more", x.worth(0, 1, 60), 1);
        Held.due("in 59 none", x.worth(0, 1, 59), 0);
        Held.due("in 61: refused", x.worth(0, 1, 61), -100000);
        x = Held.with("table 9 0;land 0 1 99");
        Held.due("in one week", x.worth(0, 1, 1), 1);
        Held.due("99", x.worth(0, 99, 1), 99);
        Held.due("100", x.worth(0, 100, 1), -100000);
        Held.due("none", x.worth(0, 0, 1), -100000);
        Held.due("in no week", x.worth(0, 1, 0), -100000);
        x = Held.with("table 9 0;land 0 1 98");
        Held.due("at most all", x.worth(0, 99, 1), 98);
    }

    @Sentence(promise = 20, says = "its BARN then less what it would be without these")
    static void p20TheLastHay() {
        SunTable x = Held.with("table 9 9;land 0 9 1;land 0 0 0");
        Held.due("the only hay", x.worth(0, 1, 1), 1);
        Held.due("no hay", x.worth(1, 1, 1), 0);
    }

    @Sentence(promise = 20, says = "more for a LAND now (999 at most)")
    static void p20AtMost999() {
        SunTable x = Held.by("buy 1 if land=0 and men=999", "table 9 9;land 0 0 50;land 9 0 0;land 0 1 0");
        Inside.men(x, 0, 990);
        Held.due("998: it does not buy", x.worth(0, 8, 1), 0);
        Held.due("999: it buys and reaps", x.worth(0, 9, 1), 50);
        Held.due("1000 is 999", x.worth(0, 10, 1), 50);
        Held.due("1089 is 999", x.worth(0, 99, 1), 50);
    }

    @Sentence(promise = 20, says = "WORTH (below 0, too);")
    static void p20BelowZero() {
        SunTable x = Held.by("buy 1 if land=0", "table 9 9;land 8 3 50;land 0 3 0");
        Held.due("with nine it buys, and has none to reap with", x.worth(0, 1, 1), -8);
        Held.due("with ten one reaps", x.worth(0, 2, 1), 1 - 8);
        Held.due("worth nothing", Held.with("table 9 9;land 8 0 50").worth(0, 9, 60), 0);
    }

    @Sentence(promise = 20, says = "-100000 without these.")
    static void p20WithoutThese() {
        SunTable x = Held.with("table 9 9;land 8 3 50");
        Held.due("a land too high", x.worth(1, 1, 1), -100000);
        Held.due("below 0", x.worth(-1, 1, 1), -100000);
        Held.due("the least", x.worth(LEAST, 1, 1), -100000);
        Held.due("the most", x.worth(MOST, 1, 1), -100000);
        Held.due("men below 0", x.worth(0, -1, 1), -100000);
        Held.due("the least men", x.worth(0, LEAST, 1), -100000);
        Held.due("the most men", x.worth(0, MOST, 1), -100000);
        Held.due("weeks below 0", x.worth(0, 1, -1), -100000);
        Held.due("the most weeks", x.worth(0, 1, MOST), -100000);
        Held.due("no lands", Held.with("table 1 1").worth(0, 1, 1), -100000);
        Held.due("no table", new SunTable().worth(0, 1, 1), -100000);
    }

    // ---- promise 21

    @Sentence(promise = 21, says =
        "NEED of a LAND for a BARN (1 to 9999) and n WEEKS (1 to 60): the least SUN, 0 to 20, that it must "
        + "have more now")
    static void p21BarnAndWeeksAtTheirLimits() {
        SunTable x = Held.with(WEEK_59);
        Held.due("in 60 weeks by what is told", x.need(0, 3, 60), 0);
        Held.due("in 59 one more", x.need(0, 3, 59), 1);
        Held.due("in 61: refused", x.need(0, 3, 61), -1);
        Held.due("in one week", x.need(0, 3, 1), 1);
        Held.due("in no week", x.need(0, 3, 0), -1);
        Held.due("a barn of one", x.need(0, 1, 1), 1);
        Held.due("a barn of none", x.need(0, 0, 1), -1);
        Held.due("a barn of 9999", x.need(0, 9999, 60), -2);
        Held.due("a barn of 10000", x.need(0, 10000, 60), -1);
        Inside.barn(x, 0, 9998);
        Held.due("a barn of 9999 that can be", x.need(0, 9999, 1), 1);
        Held.due("a barn of 9998 that is", x.need(0, 9998, 1), 0);
    }

    @Sentence(promise = 21, says = "the least SUN, 0 to 20")
    static void p21TwentyAtMost() {
        String table = "table 5 9;land 1 1 50;land 9 0 0";
        SunTable x = Held.by("buy 1 if land=1 and theirsun>20", table);
        // Land 1 gives five men for a sun if it sees 21 of them: so six reap.
        Held.due("twenty more", x.need(0, 6, 1), 20);
        x = Held.by("buy 1 if land=1 and theirsun>21", table);
        Held.due("21 more is not asked for", x.need(0, 6, 1), -2);
        x = Held.by("buy 1 if land=1 and theirsun=3", table);
        Held.due("two more, not three", x.need(0, 6, 1), 2);
        x = Held.by("buy 0", table);
        Held.due("none more", x.need(0, 1, 1), 0);
        x = Held.by("buy 1 if land=1 and [theirsun=3 or theirsun=5]", table);
        Held.due("the least of two", x.need(0, 6, 1), 2);
    }

    @Sentence(promise = 21, says = "so that its BARN is that full then, or fuller.")
    static void p21ThatFullOrFuller() {
        SunTable x = Held.with("table 9 9;land 4 0 50");
        Held.due("just as full", x.need(0, 4, 1), 1);
        Held.due("fuller", x.need(0, 3, 1), 1);
        Held.due("one too much", x.need(0, 5, 1), -2);
        Held.due("the only hay", Held.with("table 9 9;land 1 0 1").need(0, 1, 1), 1);
        Held.due("in a second week", x.need(0, 5, 2), 2);
        Held.due("just as full in two", x.need(0, 8, 2), 2);
        Held.due("stale keeps nine: ten suns in all", x.need(0, 40, 60), 10);
        Held.due("not more than that", x.need(0, 41, 60), -2);
        // Land 1 buys what land 0 has, as long as it has men.
        x = Held.with("table 9 0;land 0 0 9;land 9 0 9");
        Held.due("one is bought away, nine men come with it", x.need(0, 9, 1), 2);
    }

    @Sentence(promise = 21, says = "that it must have more now (99 at most)")
    static void p21AtMost99() {
        // By calls: 45 suns come to land 0, 34 are told for it, and twenty more are 99.
        StringBuilder text = new StringBuilder("table 1 0;land 99 9 90;land 9 9 0;land 0 9 0;land 0 9 0;land 0 9 0");
        for (int i = 0; i < 34; i++) {
            text.append(";sun 0 0");
        }
        SunTable x = Held.with(text.toString(), "buy 1 if land=1 and theirsun=99", "buy 1 if land=1 and theirsun=98");
        for (int i = 0; i < 36; i++) {
            x.swap(0, 1 + i / 9);
        }
        Held.due("45 suns", x.land(0, 1), 45);
        Held.due("men", x.land(0, 0), 63);
        // If land 1 buys, 64 men reap, and else 63.
        x.force(0);
        Held.due("99 of sun", x.need(0, 64, 1), 20);
        x.force(1);
        Held.due("98 of sun", x.need(0, 64, 1), 19);
        Held.due("without it 63 reap", x.need(0, 63, 1), 0);
        Inside.sun(x, 0, 46);
        x.force(0);
        Held.due("99 by one less", x.need(0, 64, 1), 19);
    }

    @Sentence(promise = 21, says = "now (99 at most), so that")
    static void p21WhatIsMoreIsLost() {
        SunTable x = Held.with("table 1 0;land 9 0 90;land 9 0 0", "buy 1 if land=1 and theirsun=99",
            "buy 1 if land=1 and theirsun=100");
        Inside.sun(x, 0, 90);
        x.force(0);
        Held.due("99 of sun", x.need(0, 10, 1), 9);
        x.force(1);
        Held.due("never 100", x.need(0, 10, 1), -2);
    }

    @Sentence(promise = 21, says = {"NEED; -2: by none;", "NONE without these."})
    static void p21WithoutThese() {
        SunTable x = Held.with("table 9 9;land 0 0 50;land 0 0 0");
        Held.due("no men: by none", x.need(0, 1, 60), -2);
        Held.due("no hay: by none", x.need(1, 1, 60), -2);
        Held.due("a land too high", x.need(2, 1, 1), -1);
        Held.due("below 0", x.need(-1, 1, 1), -1);
        Held.due("the least", x.need(LEAST, 1, 1), -1);
        Held.due("the most", x.need(MOST, 1, 1), -1);
        Held.due("a barn below 0", x.need(0, -1, 1), -1);
        Held.due("the most of a barn", x.need(0, MOST, 1), -1);
        Held.due("the least of a barn", x.need(0, LEAST, 1), -1);
        Held.due("weeks below 0", x.need(0, 1, -1), -1);
        Held.due("the most weeks", x.need(0, 1, MOST), -1);
        Held.due("no lands", Held.with("table 1 1").need(0, 1, 1), -1);
        Held.due("no table", new SunTable().need(0, 1, 1), -1);
    }
}
