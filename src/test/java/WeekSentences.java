/** Promises 7 to 9: LANDS, what is told for them, and the WEEK. */
final class WeekSentences {
    private WeekSentences() {
    }

    // ---- promise 7

    @Sentence(promise = 7, says = "Of a LAND what 0: MEN, 1: SUN, 2: HAY, 3: BARN,")
    static void p07MenSunHayBarn() {
        SunTable x = Held.with("table 9 9;land 0 0 0;land 99 9 99;land 4 3 9");
        Held.dueLand("the least", x, 0, 0, 0, 0, 0);
        Held.dueLand("the most", x, 1, 99, 9, 99, 0);
        Held.weeks(x, 2);
        Held.dueLand("reaped four and four", x, 2, 4, 1, 1, 8);
    }

    @Sentence(promise = 7, says = "4: from whom it CAN buy, as bits,")
    static void p07FromWhomItCanBuy() {
        SunTable x = Held.with("table 1 1;land 1 1 0;land 1 1 0;land 1 1 0;land 1 1 0;land 1 1 0");
        for (int land = 0; land <= 4; land++) {
            Held.due("all but itself " + land, x.land(land, 4), 31 - (1 << land));
        }
        x = Held.with("table 1 1;land 1 9 0");
        Held.due("alone", x.land(0, 4), 0);
        x = Held.with("table 1 1;land 9 0 0;land 9 0 0;land 9 0 0;land 9 0 0;land 9 1 0");
        Held.due("the highest bit", x.land(0, 4), 16);
        Held.due("not from itself", x.land(4, 4), 0);
    }

    @Sentence(promise = 7, says = "A LAND CAN buy from another one, if it has RATE or more MEN, and that one has SUN.")
    static void p07CanAtItsLimits() {
        SunTable x = Held.with("table 5 9;land 4 0 0;land 5 0 0;land 6 0 0;land 0 1 0;land 0 0 0");
        Held.due("one man too few", x.land(0, 4), 0);
        Held.due("just enough", x.land(1, 4), 8);
        Held.due("one more", x.land(2, 4), 8);
        x.set(6);
        Held.due("too few for another rate", x.land(1, 4), 0);
        Held.due("just enough for it", x.land(2, 4), 8);
        x.set(4);
        Held.due("enough for another rate", x.land(0, 4), 8);
        x.swap(0, 3);
        Held.due("no sun is left there", x.land(1, 4), 1);
    }

    @Sentence(promise = 7, says = "5: from whom it bought in the WEEK ahead (NONE: nobody, or there was none).")
    static void p07FromWhomItBought() {
        SunTable x = Held.with("table 1 9;land 9 0 9;land 0 1 0;land 0 0 0;land 9 9 9");
        Held.due("there was no week", x.land(0, 5), -1);
        x.swap(0, 1);
        Held.due("by hand is in no week", x.land(0, 5), -1);
        x.undo();
        x.week();
        Held.due("from the one with most sun", x.land(0, 5), 3);
        Held.due("nobody", x.land(3, 5), -1);
        x.set(9);
        Held.due("it stays until the next week", x.land(0, 5), 3);
        x.week();
        Held.due("nobody: too few men", x.land(0, 5), -1);
        x.undo();
        Held.due("that week is undone", x.land(0, 5), 3);
        x.undo();
        x.undo();
        Held.due("there was none again", x.land(0, 5), -1);
    }

    @Sentence(promise = 7, says = "5: from whom it bought in the WEEK ahead")
    static void p07FromLand0() {
        SunTable x = Held.with("table 1 9;land 0 1 0;land 1 0 9");
        x.week();
        Held.due("from land 0", x.land(1, 5), 0);
    }

    @Sentence(promise = 7, says = "-2 without these.")
    static void p07WithoutThese() {
        SunTable x = Held.with("table 1 1;land 7 7 7;land 8 8 8");
        int[] was = Held.seen(x);
        for (int what = 0; what <= 5; what++) {
            Held.due("land(-1, " + what + ")", x.land(-1, what), -2);
            Held.due("land(2, " + what + ")", x.land(2, what), -2);
            Held.due("land(least, " + what + ")", x.land(Integer.MIN_VALUE, what), -2);
            Held.due("land(most, " + what + ")", x.land(Integer.MAX_VALUE, what), -2);
        }
        Held.due("land(1, -1)", x.land(1, -1), -2);
        Held.due("land(1, 6)", x.land(1, 6), -2);
        Held.due("land(1, least)", x.land(1, Integer.MIN_VALUE), -2);
        Held.due("land(1, most)", x.land(1, Integer.MAX_VALUE), -2);
        Held.dueSame("asked", x, was);
        Held.due("no lands", Held.with("table 1 1").land(0, 0), -2);
        x = Held.with("table 1 1;land 1 1 1;land 1 1 1;land 1 1 1;land 1 1 1;land 1 1 6");
        Held.due("land(4, 2)", x.land(4, 2), 6);
        Held.due("land(5, 2)", x.land(5, 2), -2);
    }

    // ---- promise 8

    @Sentence(promise = 8, says = "How many SUNS are told for a LAND in a WEEK (0 to 60);")
    static void p08HowManyAreTold() {
        SunTable x = Held.with("table 1 1;land 0 0 0;sun 0 0;land 0 0 0;sun 1 60;sun 1 60;sun 0 59");
        Held.due("told(0, 0)", x.told(0, 0), 1);
        Held.due("told(0, 1)", x.told(0, 1), 0);
        Held.due("told(0, 59)", x.told(0, 59), 1);
        Held.due("told(0, 60)", x.told(0, 60), 0);
        Held.due("told(1, 60)", x.told(1, 60), 2);
        x.week();
        Held.due("told, too, when it has come", x.told(0, 0), 1);
    }

    @Sentence(promise = 8, says = "NONE without these.")
    static void p08WithoutThese() {
        SunTable x = Held.with("table 1 1;land 0 0 0;land 0 0 0;sun 1 60;sun 0 0");
        Held.due("told(0, -1)", x.told(0, -1), -1);
        Held.due("told(1, 61)", x.told(1, 61), -1);
        Held.due("told(-1, 0)", x.told(-1, 0), -1);
        Held.due("told(2, 0)", x.told(2, 0), -1);
        Held.due("told(0, least)", x.told(0, Integer.MIN_VALUE), -1);
        Held.due("told(0, most)", x.told(0, Integer.MAX_VALUE), -1);
        Held.due("told(least, 0)", x.told(Integer.MIN_VALUE, 0), -1);
        Held.due("told(most, 0)", x.told(Integer.MAX_VALUE, 0), -1);
        Held.due("no lands", Held.with("table 1 1").told(0, 0), -1);
    }

    // ---- promise 9

    @Sentence(promise = 9, says = "A WEEK: how many BUY in it;")
    static void p09HowManyBuy() {
        SunTable x = Held.with("table 1 9;land 9 0 99;land 9 0 99;land 9 0 99;land 9 0 99;land 0 9 0");
        Held.due("four", x.week(), 4);
        Held.due("bought so far", x.count(10), 4);
        Held.due("all of them again", x.week(), 4);
        Held.due("the last sun goes from one to the next", x.week(), 4);
        Held.due("nobody", x.week(), 0);
        Held.due("bought so far", x.count(10), 12);
        Held.due("without lands nobody", Held.with("table 1 1").week(), 0);
    }

    @Sentence(promise = 9, says = "A WEEK: (1) SUN told for this WEEK comes.")
    static void p09SunComesInItsWeek() {
        SunTable x = Held.with("table 9 9;land 0 0 0;sun 0 0;sun 0 2;sun 0 2;sun 0 60");
        int[] sun = {1, 1, 3, 3};
        for (int i = 0; i < sun.length; i++) {
            x.week();
            Held.due("behind week " + i, x.land(0, 1), sun[i]);
        }
        Held.weeks(x, 56);
        Held.due("ahead of week 60", x.land(0, 1), 3);
        x.week();
        Held.due("behind week 60", x.land(0, 1), 4);
        Held.weeks(x, 3);
        Held.due("nothing is told behind it", x.land(0, 1), 4);
    }

    @Sentence(promise = 9, says = "(1) SUN told for this WEEK comes. (2) LANDS by numbers")
    static void p09SunComesAheadOfWhoBuys() {
        SunTable x = Held.with("table 1 9;land 5 0 5;land 0 0 0;sun 1 0");
        Held.due("it buys what has come just now", x.week(), 1);
        x = Held.with("table 1 9;land 5 0 5;land 0 1 0;sun 0 0");
        Held.due("it needs none: one has come", x.week(), 0);
    }

    @Sentence(promise = 9, says = "(2) LANDS by numbers, each by how all is then:")
    static void p09ByNumbersByHowAllIsThen() {
        SunTable x = Held.by("buy 1", "table 3 9;land 3 0 0;land 0 1 0;land 0 0 0");
        Held.due("0 buys, 1 can by its men and buys it back", x.week(), 2);
        Held.due("0 from 1", x.land(0, 5), 1);
        Held.due("1 from 0", x.land(1, 5), 0);
        Held.due("2 has no men", x.land(2, 5), -1);
        x = Held.by("buy 1", "table 3 9;land 0 1 0;land 3 0 0");
        Held.due("0 was first, without men", x.week(), 1);
        Held.due("0 had none", x.land(0, 5), -1);
        Held.due("they are there now", x.land(0, 0), 3);
        x = Held.with("table 1 9;land 5 0 5;land 5 0 5;land 0 1 0");
        Held.due("one sun for two", x.week(), 2);
        Held.due("the first from the one that had it", x.land(0, 5), 2);
        Held.due("the second from the one that has it then", x.land(1, 5), 0);
    }

    @Sentence(promise = 9, says =
        "of those it CAN buy from the one for which the SUM of the RULE IN FORCE's first CLAUSE without a "
        + "TEST, or whose TEST holds (0 without), is greatest,")
    static void p09TheFirstClauseThatHolds() {
        String table = "table 1 9;land 9 0 0;land 0 5 0;land 0 5 0;land 0 5 0";
        SunTable x = Held.by("buy 5 if other=1;buy 9 if other=2;buy 7", table);
        x.week();
        Held.due("the greatest", x.land(0, 5), 2);
        x = Held.by("buy 1 if other=2;buy 9 if other=2;buy 2 if other=3", table);
        x.week();
        Held.due("the first that holds, not the greatest of one", x.land(0, 5), 3);
        x = Held.by("buy 1;buy 9 if other=2", table);
        x.week();
        Held.due("behind one without a test none is asked", x.land(0, 5), 1);
        x = Held.by("buy 9 if 1=2", table);
        Held.due("0 if none holds", x.week(), 0);
        x = Held.by("buy 0;buy 9", table);
        Held.due("0 by the first", x.week(), 0);
        x = Held.by("buy 9 if other=4", table + ";land 0 0 0");
        Held.due("from whom it can't it does not", x.week(), 0);
        x = Held.by("buy 9 if land=0", table);
        Held.due("without hay, too", x.week(), 1);
    }

    @Sentence(promise = 9, says = "is greatest, if it is above 0, of several the least: it BUYS from it;")
    static void p09AboveZeroAndTheLeast() {
        String table = "table 1 9;land 9 0 0;land 0 5 0;land 0 5 0";
        Held.due("1 is above 0", Held.by("buy 1 if land=0", table).week(), 1);
        Held.due("0 is not", Held.by("buy 0 if land=0", table).week(), 0);
        Held.due("below 0 is not", Held.by("buy 0-1 if land=0", table).week(), 0);
        SunTable x = Held.by("buy 3", table);
        x.week();
        Held.due("of two alike the least", x.land(0, 5), 1);
        x = Held.by("buy other-1", table);
        x.week();
        Held.due("0 and 1: the one above 0", x.land(0, 5), 2);
        x = Held.by("buy 2-other", table);
        x.week();
        Held.due("1 and 0: the one above 0", x.land(0, 5), 1);
        x = Held.by("buy 1", "table 1 9;land 0 5 0;land 0 5 0;land 1 0 0");
        x.week();
        Held.due("land 0 is the least", x.land(2, 5), 0);
    }

    @Sentence(promise = 9, says = "It BUYS: RATE of its MEN go to the other one, a SUN comes to it")
    static void p09ItBuys() {
        SunTable x = Held.by("buy 1 if land=0", "table 9 9;land 9 0 0;land 5 1 0");
        x.week();
        Held.dueLand("all its men go", x, 0, 0, 1, 0, 0);
        Held.dueLand("they are there", x, 1, 14, 0, 0, 0);
        x = Held.by("buy 1 if land=0", "table 1 9;land 9 8 0;land 5 9 0");
        x.week();
        Held.dueLand("one goes", x, 0, 8, 9, 0, 0);
        Held.dueLand("one is there", x, 1, 6, 8, 0, 0);
    }

    @Sentence(promise = 9, says =
        "without a RULE, if it has HAY and no SUN, from the one with most SUN, of several the least.")
    static void p09WithoutARule() {
        SunTable x = Held.with("table 1 9;land 5 0 0;land 0 5 0");
        Held.due("no hay", x.week(), 0);
        x = Held.with("table 1 9;land 5 0 1;land 0 5 0");
        Held.due("hay", x.week(), 1);
        x = Held.with("table 1 9;land 5 1 1;land 0 5 0");
        Held.due("sun of its own", x.week(), 0);
        x = Held.with("table 1 9;land 5 0 5;land 0 1 0;land 0 3 0;land 0 3 0;land 0 2 0");
        x.week();
        Held.due("most, and the least of two", x.land(0, 5), 2);
        x.week();
        Held.due("then the next", x.land(0, 5), 3);
        x = Held.with("table 1 9;land 0 2 0;land 0 2 0;land 9 0 9");
        x.week();
        Held.due("land 0 is the least", x.land(2, 5), 0);
    }

    @Sentence(promise = 9, says =
        "(3) Each LAND with HAY and SUN uses one: it reaps as much HAY as it has MEN, at most all; that is in "
        + "its BARN")
    static void p09ItReaps() {
        SunTable x = Held.with("table 9 9;land 4 3 5;land 5 3 5;land 6 3 5;land 0 3 5;land 6 3 0");
        x.week();
        Held.dueLand("a man too few", x, 0, 4, 2, 1, 4);
        Held.dueLand("just all", x, 1, 5, 2, 0, 5);
        Held.dueLand("at most all", x, 2, 6, 2, 0, 5);
        Held.dueLand("no men", x, 3, 0, 2, 5, 0);
        Held.dueLand("no hay: no sun is used", x, 4, 6, 3, 0, 0);
        x.week();
        Held.dueLand("the rest", x, 0, 4, 1, 0, 5);
        x.week();
        Held.dueLand("bare: no sun is used", x, 0, 4, 1, 0, 5);
    }

    @Sentence(promise = 9, says = "(3) Each LAND with HAY and SUN uses one")
    static void p09ItReapsWithTheSunItBought() {
        SunTable x = Held.with("table 2 0;land 5 0 9;land 9 1 9");
        x.week();
        // 0 bought the sun of 1; 1 bought it back, then reaped with 9.
        Held.dueLand("0", x, 0, 5, 0, 8, 0);
        Held.dueLand("1", x, 1, 9, 0, 0, 9);
        x = Held.with("table 2 0;land 5 0 9;land 9 1 0");
        x.week();
        Held.dueLand("with the men that are left", x, 0, 3, 0, 6, 3);
    }

    @Sentence(promise = 9, says = "Each with HAY and no SUN is rained upon: HAY is 1 less.")
    static void p09ItIsRainedUpon() {
        SunTable x = Held.with("table 9 9;land 9 0 2;land 9 0 1;land 9 0 0");
        x.week();
        Held.dueLand("two", x, 0, 9, 0, 1, 0);
        Held.dueLand("one", x, 1, 9, 0, 0, 0);
        Held.dueLand("none stays none", x, 2, 9, 0, 0, 0);
        x.week();
        Held.dueLand("none is left", x, 0, 9, 0, 0, 0);
        Held.dueLand("none stays none", x, 1, 9, 0, 0, 0);
    }

    @Sentence(promise = 9, says = "(4) Of SUN above STALE all is lost.")
    static void p09SunGoesStale() {
        SunTable x = Held.with("table 9 3;land 0 2 0;land 0 3 0;land 0 4 0;land 0 9 0;land 0 4 9");
        x.week();
        int[] sun = {2, 3, 3, 3, 3};
        for (int land = 0; land <= 4; land++) {
            Held.due("sun of " + land, x.land(land, 1), sun[land]);
        }
        x = Held.with("table 9 0;land 0 9 0;land 5 1 5;sun 0 1");
        x.week();
        Held.due("none keeps", x.land(0, 1), 0);
        Held.due("it was used ahead of that", x.land(1, 3), 5);
        x = Held.with("table 9 9;land 0 9 0;sun 0 0");
        Held.due("nine", x.land(0, 1), 9);
        x.week();
        Held.due("ten came to be, nine keep", x.land(0, 1), 9);
    }

    @Sentence(promise = 9, says = "WEEK is 1 more (999 at most).")
    static void p09WeekIsOneMore() {
        SunTable x = Held.with("table 9 9;land 0 0 99;sun 0 1");
        for (int i = 0; i < 3; i++) {
            Held.due("week", x.count(5), i);
            x.week();
        }
        Inside.week(x, 998);
        Held.due("the last", x.week(), 0);
        Held.due("week", x.count(5), 999);
        Held.due("no more", x.week(), -1);
        Held.due("week", x.count(5), 999);
        Held.due("undone", x.undo(), 3);
        Held.due("week", x.count(5), 998);
    }

    @Sentence(promise = 9, says = "NONE, and nothing happens, without a TABLE, or at WEEK 999.")
    static void p09NoTable() {
        SunTable x = new SunTable();
        Texts.rule(x, "buy 1");
        x.force(0);
        int[] was = Held.seen(x);
        Held.due("no table", x.week(), -1);
        Held.dueSame("behind it", x, was);
        Held.due("nothing to undo", x.undo(), -2);
        Texts.table(x, "table 0 0");
        Held.due("a faulty table is none", x.week(), -1);
        Texts.table(x, "table 1 0");
        Held.due("a table without lands is one", x.week(), 0);
        Held.due("week", x.count(5), 1);
    }

    @Sentence(promise = 9, says = "or at WEEK 999")
    static void p09AtWeek999() {
        SunTable x = Held.with("table 1 1;land 9 0 9;land 9 1 0");
        x.week();
        Inside.week(x, 999);
        int[] was = Held.seen(x);
        Held.due("week", x.week(), -1);
        Held.dueSame("behind it", x, was);
        Held.due("other acts are done", x.give(0, 1, 1), 7);
    }

    @Sentence(promise = 9, says = "(99 at most of SUN, 999 at most of MEN; what is more is lost).")
    static void p09AtMost99And999() {
        SunTable x = Held.by("buy 1 if land=0", "table 5 9;land 5 0 0;land 0 1 0");
        Inside.men(x, 1, 994);
        x.week();
        Held.due("just 999", x.land(1, 0), 999);
        x = Held.by("buy 1 if land=0", "table 5 9;land 5 0 0;land 0 1 0");
        Inside.men(x, 1, 995);
        x.week();
        Held.due("one is lost", x.land(1, 0), 999);
        Held.due("all five went", x.land(0, 0), 0);
        // Sun is seen by a rule ahead of its going stale; 99 is the most that comes to be by calls.
        x = Held.with("table 1 9;land 9 0 0;land 0 9 0;land 9 0 0", "buy 1 if land=0;buy theirsun-98 if land=2");
        Inside.sun(x, 0, 98);
        x.force(0);
        Held.due("99 of sun", x.week(), 2);
        x = Held.with("table 1 9;land 9 0 0;land 0 9 0;land 9 0 0", "buy 1 if land=0;buy theirsun-99 if land=2");
        Inside.sun(x, 0, 99);
        x.force(0);
        Held.due("not 100 of sun", x.week(), 1);
        Held.due("it is gone there", x.land(1, 1), 8);
    }

    @Sentence(promise = 9, says = "(1) SUN told for this WEEK comes.")
    static void p09ToldSunComesUpTo99() {
        String text = "table 1 9;land 9 0 0;land 9 0 0" + ";sun 1 0".repeat(37);
        SunTable x = Held.with(text, "buy theirsun-98 if land=0", "buy theirsun-99 if land=0");
        Inside.sun(x, 1, 62);
        x.image(0);
        x.force(0);
        Held.due("62 and 37 are 99", x.week(), 1);
        x.back(0);
        Inside.sun(x, 1, 63);
        x.force(1);
        Held.due("63 and 37 are 99, too", x.week(), 0);
    }

    @Sentence(promise = 9, says = "(9999 at most).")
    static void p09AtMost9999InABarn() {
        SunTable x = Held.with("table 1 9;land 5 9 20;land 0 0 0");
        Inside.barn(x, 0, 9990);
        x.week();
        Held.dueLand("five more", x, 0, 5, 8, 15, 9995);
        x.week();
        Held.due("9999 and one lost", x.land(0, 3), 9999);
        Held.due("reaped all the same", x.land(0, 2), 10);
        x.week();
        Held.due("9999", x.land(0, 3), 9999);
        Held.due("all barns", x.count(9), 9999);
    }
}
