/** Promises 17, 18 and 22 to 25: the best row, the best rate, games, whom to shun, a mother's day, parts. */
final class ChoiceSentences {
    private static final int LEAST = Integer.MIN_VALUE;
    private static final int MOST = Integer.MAX_VALUE;
    /** Sun comes to LAND 0 in WEEK 59 alone, and it reaps then. */
    private static final String WEEK_59 = "table 9 0;land 3 0 99;sun 0 59";

    private ChoiceSentences() {
    }

    private static void dueRow(String what, SunTable x, int land, int full, int... from) {
        Held.due(what + ": how full", x.row(land, from.length, 0), full);
        for (int i = 1; i <= 4; i++) {
            Held.due(what + ": week " + i, x.row(land, from.length, i), i <= from.length ? from[i - 1] : -2);
        }
    }

    // ---- promise 17

    @Sentence(promise = 17, says = "ROW of a LAND for n WEEKS (1 to 4): from whom it buys in each of these,")
    static void p17OneToFourWeeks() {
        SunTable x = Held.with("table 1 0;land 9 0 99;land 0 0 0;land 0 0 0;sun 1 0;sun 2 1;sun 1 2;sun 2 3;sun 2 4");
        dueRow("one", x, 0, 8, 1);
        dueRow("two", x, 0, 8 + 7, 1, 2);
        dueRow("three", x, 0, 8 + 7 + 6, 1, 2, 1);
        dueRow("four", x, 0, 8 + 7 + 6 + 5, 1, 2, 1, 2);
        for (int what = 0; what <= 4; what++) {
            Held.due("none", x.row(0, 0, what), -3);
            Held.due("five", x.row(0, 5, what), -3);
        }
    }

    @Sentence(promise = 17, says =
        "any from whom it CAN then, or from nobody, in place of what the RULE says (others by it),")
    static void p17InPlaceOfTheRule() {
        SunTable x = Held.by("buy 0", "table 1 0;land 9 0 99;land 0 1 0");
        dueRow("the rule says nobody", x, 0, 8, 1);
        x = Held.by("buy 1 if land=0", "table 1 0;land 9 1 99;land 0 1 0");
        dueRow("the rule says land 1", x, 0, 9, -1);
        // Land 1 would buy it back by the rule, behind land 0.
        x = Held.by("buy 9 if land=1 and other=0", "table 1 0;land 9 0 99;land 9 1 9");
        dueRow("others by it", x, 0, 0, -1);
        x = Held.by("buy 1 if land=0 and other=1", "table 1 0;land 1 0 0;land 0 1 0;land 9 0 99");
        dueRow("by how all is then: land 0 has it now", x, 2, 8, 0);
        x = Held.by("buy 0", "table 3 0;land 2 0 9;land 0 9 0");
        dueRow("it can't: a man too few", x, 0, 0, -1);
        x = Held.by("buy 0", "table 3 0;land 4 0 9;land 0 9 0");
        dueRow("it can", x, 0, 1, 1);
        x = Held.by("buy 0", "table 3 9;land 4 0 9;land 0 9 0");
        dueRow("it can once", x, 0, 1, -1, 1);
    }

    @Sentence(promise = 17, says =
        "so that its BARN is fullest behind these; of several the first row (nobody ahead of LAND 0): how "
        + "full; from whom in which WEEK.")
    static void p17OfSeveralTheFirst() {
        SunTable x = Held.by("buy 0", "table 1 9;land 0 1 0;land 9 0 9;land 0 1 0");
        dueRow("land 0 ahead of land 2", x, 1, 8, 0);
        x = Held.by("buy 0", "table 1 9;land 0 1 0;land 9 5 9;land 0 1 0");
        dueRow("nobody ahead of land 0", x, 1, 9, -1);
        dueRow("nobody to the end", x, 1, 9, -1, -1, -1, -1);
        // Rain takes one of nine; then eight men reap all eight. The first row buys as late as it can.
        x = Held.by("buy 0", "table 1 9;land 0 1 0;land 9 0 9");
        dueRow("late", x, 1, 8, -1, 0);
        dueRow("not too late", x, 1, 8, -1, 0, -1);
        x = Held.by("buy 0", "table 1 9;land 0 2 0;land 9 0 14;land 0 2 0");
        dueRow("two suns, the first row", x, 1, 8 + 6, 0, 0);
    }

    @Sentence(promise = 17, says =
        "ROW what 0: how full, 1 to 4: from whom in that WEEK (NONE: nobody; -2: there is no such WEEK).")
    static void p17NoSuchWeek() {
        SunTable x = Held.with("table 1 0;land 9 0 99;land 0 1 0");
        for (int n = 1; n <= 4; n++) {
            for (int what = 1; what <= 4; what++) {
                int due = what > n ? -2 : what == 1 ? 1 : -1;
                Held.due("row(0, " + n + ", " + what + ")", x.row(0, n, what), due);
            }
        }
    }

    @Sentence(promise = 17, says = "-3 without these.")
    static void p17WithoutThese() {
        SunTable x = Held.with("table 1 0;land 9 0 99;land 0 1 0");
        int[] was = Held.seen(x);
        Held.due("a land too high", x.row(2, 1, 0), -3);
        Held.due("below 0", x.row(-1, 1, 0), -3);
        Held.due("the least", x.row(LEAST, 1, 0), -3);
        Held.due("the most", x.row(MOST, 1, 0), -3);
        Held.due("weeks below 0", x.row(0, -1, 0), -3);
        Held.due("the most weeks", x.row(0, MOST, 0), -3);
        Held.due("the least weeks", x.row(0, LEAST, 0), -3);
        Held.due("what -1", x.row(0, 1, -1), -3);
        Held.due("what 5", x.row(0, 4, 5), -3);
        Held.due("the most what", x.row(0, 4, MOST), -3);
        Held.due("no such land or week", x.row(2, 1, 2), -3);
        Held.dueSame("behind these", x, was);
        Held.due("no lands", Held.with("table 1 1").row(0, 1, 0), -3);
        Held.due("no table", new SunTable().row(0, 1, 0), -3);
    }

    // ---- promise 18

    @Sentence(promise = 18, says =
        "BEST RATE for n WEEKS (1 to 60): the RATE, 1 to 9, in place of what it is, by which all BARNS "
        + "together are fullest then;")
    static void p18RatesAndWeeksAtTheirLimits() {
        for (int rate = 1; rate <= 9; rate++) {
            SunTable x = Held.by("buy 1 if land=0 and rate=" + rate, "table 5 9;land 20 0 99;land 0 1 20");
            Held.due("the best is " + rate, x.best(1, 0), rate);
            Held.due("how full", x.best(1, 1), 20 - rate);
            Held.due("the rate stays", x.count(0), 5);
        }
        SunTable x = Held.with(WEEK_59);
        Held.due("in 60 weeks", x.best(60, 1), 3);
        Held.due("in 59", x.best(59, 1), 0);
        Held.due("in 61", x.best(61, 1), -1);
        Held.due("in one", x.best(1, 1), 0);
        Held.due("in none", x.best(0, 1), -1);
    }

    @Sentence(promise = 18, says = "fullest then; of several the least")
    static void p18TheLastHay() {
        SunTable x = Held.with("table 9 9;land 1 1 1");
        Held.due("the only hay is reaped", x.best(1, 1), 1);
        Held.due("and no more", x.best(60, 1), 1);
        x.week();
        Held.due("no hay is left", x.best(60, 1), 1);
    }

    @Sentence(promise = 18, says = "of several the least; how full.")
    static void p18OfSeveralTheLeast() {
        SunTable x = Held.by("buy 1 if land=0 and rate>3 and rate<7", "table 9 9;land 20 0 5;land 0 1 0");
        Held.due("4, 5 and 6", x.best(1, 0), 4);
        Held.due("how full", x.best(1, 1), 5);
        x = Held.with("table 9 9;land 20 0 0");
        Held.due("all alike", x.best(60, 0), 1);
        Held.due("how full", x.best(60, 1), 0);
        Held.due("no lands", Held.with("table 7 1").best(1, 0), 1);
    }

    @Sentence(promise = 18, says = "by which all BARNS together are fullest then")
    static void p18AllBarnsTogether() {
        // By 9 land 0 keeps no man to reap with, by 1 it keeps eight; land 1 reaps five by any.
        SunTable x = Held.with("table 9 9;land 9 0 20;land 5 2 5");
        Held.due("eight and five", x.best(1, 1), 8 + 5);
        Held.due("by one man a sun", x.best(1, 0), 1);
        x.week();
        Held.due("what is there counts", x.best(1, 1), 5);
    }

    @Sentence(promise = 18, says = {"BEST RATE what 0: which, 1: how full.", "NONE without these, or a TABLE."})
    static void p18WithoutThese() {
        SunTable x = Held.with("table 9 9;land 9 0 20;land 5 2 5");
        Held.due("what -1", x.best(1, -1), -1);
        Held.due("what 2", x.best(1, 2), -1);
        Held.due("the most what", x.best(1, MOST), -1);
        Held.due("weeks below 0", x.best(-1, 0), -1);
        Held.due("the least weeks", x.best(LEAST, 0), -1);
        Held.due("the most weeks", x.best(MOST, 0), -1);
        Held.due("no table", new SunTable().best(1, 0), -1);
    }

    // ---- promise 22

    @Sentence(promise = 22, says = "GAME of two LANDS for n turns (1 to 4): by turns, the first one first,")
    static void p22OneToFourTurns() {
        SunTable x = Held.with("table 1 0;land 9 0 90;land 9 0 90;sun 1 0;sun 0 1;sun 1 2;sun 0 3");
        Held.due("none", x.game(0, 1, 0, 0), -100000);
        Held.due("five", x.game(0, 1, 5, 0), -100000);
        // Sun comes in the week, behind the turn: nobody has any to sell, so each reaps with its own.
        Held.due("one", x.game(0, 1, 1, 0), -9);
        Held.due("two", x.game(0, 1, 2, 0), 0);
        Held.due("three", x.game(0, 1, 3, 0), -9);
        Held.due("four", x.game(0, 1, 4, 0), 0);
        Held.due("four the other way", x.game(1, 0, 4, 0), 0);
        Held.due("three the other way", x.game(1, 0, 3, 0), 9);
    }

    @Sentence(promise = 22, says = "by turns, the first one first")
    static void p22WhoseTurnItIs() {
        // Sun comes to land 1 in week 1, which has no use for it: it can be bought from turn 2 on.
        SunTable x = Held.with("table 1 9;land 9 0 90;land 9 0 0;sun 1 1");
        Held.due("turn 1 is too early", x.game(0, 1, 2, 0), 0);
        Held.due("turn 2 is the first one's", x.game(0, 1, 3, 0), 8);
        Held.due("turn 2 is not the second one's", x.game(1, 0, 3, 0), 0);
        Held.due("turn 3 is", x.game(1, 0, 4, 0), -8);
        x = Held.with("table 1 9;land 9 0 90;land 9 1 0");
        Held.due("turn 0 is the first one's", x.game(0, 1, 1, 0), 8);
        Held.due("turn 0 is not the second one's", x.game(1, 0, 1, 0), 0);
        Held.due("turn 1 is", x.game(1, 0, 2, 0), -8);
    }

    @Sentence(promise = 22, says = "one BUYS from the other one of these, or not (only if it CAN),")
    static void p22OnlyIfItCan() {
        SunTable x = Held.with("table 5 0;land 5 0 9;land 3 1 9");
        Held.due("with just enough men it takes the sun away", x.game(0, 1, 1, 1), 1);
        Held.due("nobody reaps", x.game(0, 1, 1, 0), 0);
        x = Held.with("table 5 0;land 4 0 9;land 3 1 9");
        Held.due("a man too few", x.game(0, 1, 1, 1), 0);
        Held.due("three reap there", x.game(0, 1, 1, 0), -3);
        x = Held.with("table 4 0;land 5 0 9;land 1 1 9");
        Held.due("one reaps here, none there", x.game(0, 1, 1, 0), 1);
        Held.due("it buys", x.game(0, 1, 1, 1), 1);
        x = Held.with("table 1 0;land 5 0 9;land 1 0 9;land 9 9 9");
        Held.due("not from a third one", x.game(0, 1, 1, 1), 0);
        Held.due("nobody has sun", x.game(0, 1, 1, 0), 0);
    }

    @Sentence(promise = 22, says = "then it is a WEEK, in which neither of the two buys, others by the RULE;")
    static void p22OthersByTheRule() {
        String table = "table 1 0;land 5 0 9;land 9 2 9;land 9 0 9";
        SunTable x = Held.by("buy 1 if land<2", table);
        Held.due("neither of the two by the rule", x.game(0, 1, 1, 0), 4 - 9);
        x = Held.by("buy 1 if land=2 and other=1", table);
        Held.due("a third one by it", x.game(0, 1, 1, 0), 4 - 0);
        x = Held.with("table 1 0;land 5 0 9;land 5 0 9;land 0 9 0");
        Held.due("without a rule neither", x.game(0, 1, 1, 0), 0);
    }

    @Sentence(promise = 22, says =
        "the first one wants its BARN less the other one's to be most behind the last turn, the second one "
        + "least, if both do their best: how much;")
    static void p22BothDoTheirBest() {
        SunTable x = Held.with("table 1 9;land 9 0 20;land 9 1 20");
        Held.due("0 buys and reaps eight", x.game(0, 1, 1, 0), 8);
        Held.due("1 keeps its own and reaps nine", x.game(1, 0, 1, 0), 9);
        // If 0 bought, 1 would reap with ten, then buy it back and reap with nine: nineteen, not eighteen.
        x = Held.with("table 1 9;land 9 0 0;land 9 2 20");
        Held.due("the second one would do its best", x.game(0, 1, 2, 0), -18);
        Held.due("so the first one does not buy", x.game(0, 1, 2, 1), 0);
        Held.due("in one turn it does not either", x.game(0, 1, 1, 0), -9);
        x.week();
        Held.due("what is in the barns counts", x.game(1, 0, 1, 0), 18);
    }

    @Sentence(promise = 22, says = "whether the first one BUYS first (not ahead of so).")
    static void p22NotAheadOfSo() {
        SunTable x = Held.with("table 1 9;land 5 0 0;land 5 3 0");
        for (int n = 1; n <= 4; n++) {
            Held.due("all alike: not", x.game(0, 1, n, 1), 0);
            Held.due("nothing", x.game(0, 1, n, 0), 0);
        }
        x = Held.with("table 1 0;land 2 0 9;land 0 1 9");
        Held.due("better: so", x.game(0, 1, 1, 1), 1);
        Held.due("one", x.game(0, 1, 1, 0), 1);
    }

    @Sentence(promise = 22, says = {
        "GAME what 0: how much (below 0, too), 1: 1 if it BUYS, else 0.",
        "-100000 without these (unlike)."})
    static void p22WithoutThese() {
        SunTable x = Held.with("table 1 0;land 2 0 9;land 0 1 9");
        int[] was = Held.seen(x);
        Held.due("alike", x.game(0, 0, 1, 0), -100000);
        Held.due("alike", x.game(1, 1, 1, 1), -100000);
        Held.due("a land too high", x.game(0, 2, 1, 0), -100000);
        Held.due("a land too high", x.game(2, 0, 1, 0), -100000);
        Held.due("below 0", x.game(-1, 0, 1, 0), -100000);
        Held.due("below 0", x.game(0, -1, 1, 0), -100000);
        Held.due("the least", x.game(LEAST, 0, 1, 0), -100000);
        Held.due("the most", x.game(0, MOST, 1, 0), -100000);
        Held.due("turns below 0", x.game(0, 1, -1, 0), -100000);
        Held.due("the most turns", x.game(0, 1, MOST, 0), -100000);
        Held.due("what -1", x.game(0, 1, 1, -1), -100000);
        Held.due("what 2", x.game(0, 1, 1, 2), -100000);
        Held.dueSame("behind these", x, was);
        Held.due("no lands", Held.with("table 1 1").game(0, 1, 1, 0), -100000);
        Held.due("no table", new SunTable().game(0, 1, 1, 0), -100000);
    }

    // ---- promise 23

    @Sentence(promise = 23, says =
        "SHUN for n WEEKS (1 to 60): the fewest LANDS from which nobody buys from now on, so that all BARNS "
        + "together are fullest then:")
    static void p23WeeksAtTheirLimits() {
        SunTable x = Held.with(WEEK_59);
        Held.due("in 60 weeks", x.shun(60, 2), 3);
        Held.due("in 59", x.shun(59, 2), 0);
        Held.due("in 61", x.shun(61, 2), -1);
        Held.due("in one", x.shun(1, 2), 0);
        Held.due("in none", x.shun(0, 2), -1);
        // Land 0 buys the sun of 1 in week 59: shunned, 1 reaps nine, not one and none.
        x = Held.by("buy 1 if land=0", "table 1 0;land 2 0 99;land 9 0 99;sun 1 59");
        Held.due("60 weeks: the set", x.shun(60, 1), 2);
        Held.due("60 weeks: how full", x.shun(60, 2), 9);
        Held.due("59 weeks: no set", x.shun(59, 1), 0);
    }

    @Sentence(promise = 23, says =
        "of all sets those by which they are; of these the fewest, of several the least as bits: how many; "
        + "how full.")
    static void p23TheFewestThenTheLeast() {
        SunTable x = Held.with("table 1 0;land 9 1 9;land 9 1 9");
        Held.due("nobody buys: none", x.shun(60, 0), 0);
        Held.due("no set", x.shun(60, 1), 0);
        // Land 0 has nothing to reap, but takes the sun of 1.
        x = Held.by("buy 1 if land=0", "table 1 0;land 9 0 0;land 5 1 9;land 7 0 0");
        Held.due("one", x.shun(1, 0), 1);
        Held.due("land 1", x.shun(1, 1), 2);
        Held.due("how full", x.shun(1, 2), 5);
        // It takes from 1, or from 2 if 1 is shunned: both must be.
        x = Held.by("buy 1 if land=0", "table 1 0;land 9 0 0;land 5 1 9;land 7 1 9");
        Held.due("both", x.shun(1, 0), 2);
        Held.due("the set", x.shun(1, 1), 6);
        Held.due("how full", x.shun(1, 2), 12);
        // Land 2 has no hay and no harm by it: to shun 1 is enough.
        x = Held.by("buy 1 if land=0", "table 1 0;land 9 0 0;land 5 1 9;land 7 1 0");
        Held.due("one is enough", x.shun(1, 0), 1);
        Held.due("the set", x.shun(1, 1), 2);
        x = Held.by("buy 1 if land=3 or land=4", "table 9 0;land 5 1 5;land 5 1 5;land 5 1 5;land 9 0 0;land 9 0 0");
        Held.due("two take the sun of two of three: all three", x.shun(1, 0), 3);
        Held.due("the set", x.shun(1, 1), 7);
        x = Held.by("buy 1 if land=0", "table 9 0;land 9 0 0;land 5 1 5;land 5 1 5;land 5 1 5;land 5 1 0");
        Held.due("from the last it may buy", x.shun(1, 1), 14);
    }

    @Sentence(promise = 23, says = "of these the fewest")
    static void p23TheFewestAheadOfTheLeast() {
        // 3 buys from 0, or from 1; then 4 gives all its men to 3 for a sun. Without 0 and 1, or without 3, it can't.
        SunTable x = Held.by("buy 1 if land=3 and other<2;buy 1 if land=4 and other=3",
            "table 9 0;land 0 1 0;land 0 1 0;land 0 0 0;land 9 0 0;land 9 1 9");
        Held.due("one", x.shun(1, 0), 1);
        Held.due("3, as bits more than 0 and 1", x.shun(1, 1), 8);
        Held.due("how full", x.shun(1, 2), 9);
    }

    @Sentence(promise = 23, says = "of several the least as bits")
    static void p23OfSeveralTheLeastAsBits() {
        // 0 buys from 2, then 1 gives all its men to 0 for a sun: without 0 or without 2 it can't.
        SunTable x = Held.by("buy 1 if land=0 and other=2;buy 1 if land=1 and other=0",
            "table 9 0;land 9 0 0;land 9 1 9;land 0 1 0");
        Held.due("one", x.shun(1, 0), 1);
        Held.due("0, not 2", x.shun(1, 1), 1);
        Held.due("how full", x.shun(1, 2), 9);
    }

    @Sentence(promise = 23, says = {
        "SHUN what 0: how many, 1: the set, 2: how full.",
        "NONE without these, or a TABLE."})
    static void p23WithoutThese() {
        SunTable x = Held.with("table 1 0;land 9 1 9;land 9 1 9");
        Held.due("what -1", x.shun(1, -1), -1);
        Held.due("what 3", x.shun(1, 3), -1);
        Held.due("the most what", x.shun(1, MOST), -1);
        Held.due("weeks below 0", x.shun(-1, 0), -1);
        Held.due("the least weeks", x.shun(LEAST, 0), -1);
        Held.due("the most weeks", x.shun(MOST, 0), -1);
        Held.due("no table", new SunTable().shun(1, 0), -1);
        for (int what = 0; what <= 2; what++) {
            Held.due("no lands", Held.with("table 1 1").shun(1, what), 0);
        }
    }

    // ---- promise 24

    @Sentence(promise = 24, says = "MOTHER for n WEEKS (1 to 60): for whom one SUN more now")
    static void p24WeeksAtTheirLimits() {
        SunTable x = Held.with(WEEK_59);
        Held.due("in 60 weeks: three now, and three", x.mother(60, 1), 6);
        Held.due("in 59: three now", x.mother(59, 1), 3);
        Held.due("in 61", x.mother(61, 1), -2);
        Held.due("in one", x.mother(1, 1), 3);
        Held.due("in none", x.mother(0, 1), -2);
    }

    @Sentence(promise = 24, says =
        "fills all BARNS together most behind these, or for nobody; of several nobody, then the least; how "
        + "full.")
    static void p24NobodyThenTheLeast() {
        SunTable x = Held.with("table 9 0;land 0 0 9;land 5 1 9;land 5 0 0");
        Held.due("nothing more for anybody: nobody", x.mother(1, 0), -1);
        Held.due("how full", x.mother(1, 1), 5);
        x = Held.with("table 9 0;land 3 0 9;land 5 0 9;land 5 0 9;land 8 1 9");
        Held.due("of two alike the least", x.mother(1, 0), 1);
        Held.due("how full", x.mother(1, 1), 8 + 5);
        x = Held.with("table 9 0;land 1 0 9;land 1 0 9");
        Held.due("land 0", x.mother(1, 0), 0);
        x = Held.with("table 9 0;land 1 0 9;land 1 0 9;land 1 0 9;land 1 0 9;land 2 0 9");
        Held.due("land 4", x.mother(1, 0), 4);
        x = Held.with("table 9 9;land 5 1 5;land 4 0 9");
        x.week();
        Held.due("what is there counts", x.mother(1, 1), 5 + 4);
    }

    @Sentence(promise = 24, says = "for whom one SUN more now")
    static void p24OneSunAlone() {
        SunTable x = Held.with("table 9 9;land 3 0 99;land 9 0 0");
        Held.due("one is used in one week", x.mother(2, 1), 3);
        Held.due("in 60 weeks, too", x.mother(60, 1), 3);
        x = Held.with("table 9 9;land 1 0 1");
        Held.due("the only hay", x.mother(1, 1), 1);
    }

    @Sentence(promise = 24, says = "one SUN more now (99 at most) fills")
    static void p24AtMost99() {
        // With a hundred land 1 would buy one, and a man more would reap.
        SunTable x = Held.by("buy theirsun-99 if land=1", "table 1 0;land 9 0 20;land 9 0 0");
        Inside.sun(x, 0, 99);
        Held.due("never a hundred", x.mother(1, 0), -1);
        Held.due("nine reap", x.mother(1, 1), 9);
        x = Held.by("buy theirsun-98 if land=1", "table 1 0;land 8 0 20;land 9 0 0");
        Inside.sun(x, 0, 98);
        Held.due("99", x.mother(1, 0), 0);
        Held.due("nine reap", x.mother(1, 1), 9);
    }

    @Sentence(promise = 24, says = {"MOTHER what 0: who (NONE: nobody), 1: how full.", "-2 without these, or a TABLE."})
    static void p24WithoutThese() {
        SunTable x = Held.with("table 9 0;land 0 0 9");
        Held.due("what -1", x.mother(1, -1), -2);
        Held.due("what 2", x.mother(1, 2), -2);
        Held.due("the most what", x.mother(1, MOST), -2);
        Held.due("weeks below 0", x.mother(-1, 0), -2);
        Held.due("the least weeks", x.mother(LEAST, 0), -2);
        Held.due("the most weeks", x.mother(MOST, 0), -2);
        Held.due("no table", new SunTable().mother(1, 0), -2);
        Held.due("no lands: nobody", Held.with("table 1 1").mother(1, 0), -1);
        Held.due("no lands: nothing", Held.with("table 1 1").mother(1, 1), 0);
    }

    // ---- promise 25

    private static SunTable barns(int... barns) {
        StringBuilder text = new StringBuilder("table 9 0");
        for (int barn : barns) {
            text.append(";land ").append(barn).append(" 1 ").append(barn);
        }
        SunTable x = Held.by("buy 0", text.toString());
        x.week();
        return x;
    }

    private static void dueParts(SunTable x, int barley, int... parts) {
        for (int land = 0; land < parts.length; land++) {
            Held.due("parts(" + barley + ", " + land + ")", x.parts(barley, land), parts[land]);
        }
    }

    @Sentence(promise = 25, says = "PARTS of BARLEY (0 to 9999) among LANDS by BARNS: each the part downwards;")
    static void p25BarleyAtItsLimits() {
        SunTable x = barns(3, 3, 3, 5, 0);
        dueParts(x, 0, 0, 0, 0, 0, 0);
        dueParts(x, 14, 3, 3, 3, 5, 0);
        // 2142 and 9/14 each, 3571 and 1/14: two are left.
        dueParts(x, 9999, 2143, 2143, 2142, 3571, 0);
        Held.due("10000", x.parts(10000, 0), -1);
        Held.due("-1", x.parts(-1, 0), -1);
        x = barns(7);
        dueParts(x, 9999, 9999);
        dueParts(x, 1, 1);
        dueParts(barns(0, 1), 5, 0, 5);
        dueParts(barns(1), 9999, 9999);
    }

    @Sentence(promise = 25, says =
        "what is left, one each, to those whose part lost most by that, of several the least first")
    static void p25WhatIsLeft() {
        dueParts(barns(1, 1), 1, 1, 0);
        dueParts(barns(1, 1, 1), 2, 1, 1, 0);
        // 1 and 3/4, 2 and 1/4: the first lost more.
        dueParts(barns(7, 9), 4, 2, 2);
        dueParts(barns(9, 7), 4, 2, 2);
        // 7/15, 14/15, 1 and 6/15, 1 and 13/15, 2 and 5/15: three are left.
        dueParts(barns(1, 2, 3, 4, 5), 7, 1, 1, 1, 2, 2);
        dueParts(barns(0, 5, 0, 5), 3, 0, 2, 0, 1);
        dueParts(barns(99, 1), 50, 50, 0);
        dueParts(barns(98, 2), 50, 49, 1);
        // Four are left of five alike: the last has none.
        dueParts(barns(1, 1, 1, 1, 1), 4, 1, 1, 1, 1, 0);
        dueParts(barns(1, 1, 1, 1, 1), 9, 2, 2, 2, 2, 1);
    }

    @Sentence(promise = 25, says = "(nothing, if all are empty).")
    static void p25AllAreEmpty() {
        SunTable x = Held.with("table 9 0;land 5 1 5;land 5 1 5");
        for (int barley : new int[] {0, 1, 9999}) {
            dueParts(x, barley, 0, 0);
        }
        Held.due("-1", x.parts(-1, 0), -1);
        Held.due("10000", x.parts(10000, 0), -1);
    }

    @Sentence(promise = 25, says = "PARTS; NONE without these.")
    static void p25WithoutThese() {
        SunTable x = barns(3, 3);
        Held.due("a land too high", x.parts(1, 2), -1);
        Held.due("below 0", x.parts(1, -1), -1);
        Held.due("the least", x.parts(1, LEAST), -1);
        Held.due("the most", x.parts(1, MOST), -1);
        Held.due("the least barley", x.parts(LEAST, 0), -1);
        Held.due("the most barley", x.parts(MOST, 0), -1);
        Held.due("no lands", Held.with("table 1 1").parts(1, 0), -1);
        Held.due("no table", new SunTable().parts(0, 0), -1);
    }

    @Sentence(promise = 25, says = "among LANDS by BARNS")
    static void p25FullBarns() {
        SunTable x = barns(1, 1, 1, 1, 1);
        for (int land = 0; land <= 4; land++) {
            Inside.barn(x, land, 9999);
        }
        dueParts(x, 9999, 2000, 2000, 2000, 2000, 1999);
    }
}
