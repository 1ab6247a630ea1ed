/** Promises 5 and 6: RULES, what they say, and their FAULTS. */
final class RuleSentences {
    private static final String TWELVE = "buy 1" + ";buy 1".repeat(11);
    private static final String SIXTY = "buy 1" + "+1".repeat(59);
    /** 2 to the power of 60. */
    private static final String TWO_60 = "32768*32768*32768*32768";

    private RuleSentences() {
    }

    private static void taken(String text) {
        SunTable x = new SunTable();
        Held.due("rule '" + text + "'", Texts.rule(x, text), 0);
        Held.due("rules behind it", x.count(3), 1);
    }

    private static void refused(String text, int place, int kind) {
        SunTable x = Held.with("table 2 3;land 9 1 20;land 5 4 6;sun 1 1", "buy 1");
        int[] was = Held.seen(x);
        Held.due("rule '" + text + "'", Texts.rule(x, text), -2 - (1 + 8 * place + kind));
        Held.dueSame("behind '" + text + "'", x, was);
    }

    /** LAND 0 buys from LAND 1 in some WEEK if a TEST holds; ahead of that nobody buys. */
    private static boolean whether(String table, int week, String test) {
        SunTable x = Held.with(table, "buy 0", "buy 1 if land=0 and other=1 and [" + test + "]");
        x.force(0);
        Held.weeks(x, week);
        x.force(1);
        Held.due("it can buy", x.land(0, 4) & 2, 2);
        x.week();
        return x.land(0, 5) == 1;
    }

    private static void dueTest(String table, int week, String test, boolean holds) {
        Held.check(whether(table, week, test) == holds, "'" + test + "' in week " + week + " of '" + table
            + "' does " + (holds ? "not hold" : "hold"));
    }

    private static void so(String test) {
        dueTest("table 2 9;land 9 3 30;land 5 6 7", 0, test, true);
    }

    private static void notSo(String test) {
        dueTest("table 2 9;land 9 3 30;land 5 6 7", 0, test, false);
    }

    // ---- promise 5

    @Sentence(promise = 5, says = "The TAPE, which is empty then, is a RULE: its number;")
    static void p05ItsNumber() {
        SunTable x = new SunTable();
        for (int i = 0; i <= 5; i++) {
            Held.due("rule " + i, Texts.rule(x, "buy " + i), i);
            Held.due("the tape is empty", x.count(14), 0);
            Held.due("rules", x.count(3), i + 1);
            Held.due("it is not in force by that", x.count(4), -1);
        }
    }

    @Sentence(promise = 5, says = "-2 - its FAULT;")
    static void p05AFaultIsNoRule() {
        SunTable x = new SunTable();
        Held.due("nothing fed", x.rule(), -3);
        Held.due("a good one", Texts.rule(x, "buy 7"), 0);
        Held.due("a faulty one", Texts.rule(x, "buy 1;buy 2;buy"), -2 - (1 + 8 * 15));
        Held.due("the tape is empty", x.count(14), 0);
        Held.due("rules", x.count(3), 1);
        Held.due("it can't be in force", x.force(1), -2);
        for (int i = 0; i < 9; i++) {
            Held.due("a long faulty one", Texts.rule(x, SIXTY + " if"), -2 - (1 + 8 * 126));
        }
        Held.due("its number is free", Texts.rule(x, "buy 1 if 1=2"), 1);
        Texts.table(x, "table 1 1;land 1 0 0;land 0 1 0");
        x.force(1);
        Held.due("nothing is left of the faulty one", x.week(), 0);
        Texts.table(x, "table 1 1;land 1 0 0;land 0 1 0");
        x.force(0);
        Held.due("the good one is as it was: both buy", x.week(), 2);
        for (int i = 0; i < 9; i++) {
            Texts.rule(x, SIXTY + " if");
        }
        Held.due("one behind long faulty ones", Texts.rule(x, "buy 1 if land=0"), 2);
        x.undo();
        x.force(2);
        Held.due("is whole", x.week(), 1);
    }

    @Sentence(promise = 5, says = "NONE, and nothing happens: there are 6.")
    static void p05ThereAreSix() {
        SunTable x = new SunTable();
        for (int i = 0; i < 5; i++) {
            Texts.rule(x, "buy 1");
        }
        Held.due("the sixth", Texts.rule(x, "buy 1"), 5);
        Texts.put(x, "buy 1");
        Held.due("a seventh", x.rule(), -1);
        Held.due("the tape stays", x.count(14), 5);
        Held.due("rules", x.count(3), 6);
        Texts.put(x, "no rule");
        Held.due("a faulty one is not read either", x.rule(), -1);
        Held.due("the tape stays", x.count(14), 7);
        Texts.put(x, "table 1 1");
        x.rule();
        Held.due("what stayed can be a table", x.table(), 0);
    }

    @Sentence(promise = 5, says = "RULES 0 to 5: texts likewise")
    static void p05TextsOf400Bytes() {
        taken("buy 1" + " ".repeat(395));
        taken("buy" + " ".repeat(396) + "1");
        refused("buy" + " ".repeat(397), 400, 0);
        // Every byte a sign of its own.
        refused("%".repeat(400), 0, 0);
        refused("buy 1" + "[".repeat(395), 5, 0);
        refused("buy 1" + " ".repeat(394) + ";", 400, 0);
        refused("buy 1" + " ".repeat(394) + "x", 399, 0);
    }

    @Sentence(promise = 5, says = "12 CLAUSES at most")
    static void p05TwelveClauses() {
        taken(TWELVE);
        refused(TWELVE + ";buy 1", 72, 4);
        refused(TWELVE + ";  buy", 74, 4);
        // The twelfth counts.
        SunTable x = Held.by("buy 0 if 1=2;".repeat(11) + "buy 1 if land=0", "table 1 1;land 1 0 0;land 0 1 0");
        Held.due("by the twelfth", x.week(), 1);
    }

    @Sentence(promise = 5, says = "buy SUM [ if TEST ].")
    static void p05AClause() {
        taken("buy 1");
        taken("buy 1 if 1=1");
        refused("", 0, 0);
        refused("buy", 3, 0);
        refused("buy if 1=1", 4, 0);
        refused("buy 1 if", 8, 0);
        refused("buy 1 if;buy 1", 8, 0);
        refused("buy 1 if 1=1 if 1=1", 13, 0);
        refused("buy 1 [if 1=1]", 6, 0);
        refused("buy 1;", 6, 0);
        refused("buy 1;;buy 1", 6, 0);
        refused("buy 1 buy 1", 6, 0);
        refused("if 1=1", 0, 0);
        refused("table 1 1", 0, 0);
        refused("buy buy", 4, 0);
        refused("buy table", 4, 0);
    }

    @Sentence(promise = 5, says = {"TEST: PART { or PART }.", "PART: FACT { and FACT }."})
    static void p05OrOfAnds() {
        so("1=1 or 1=2");
        so("1=2 or 1=1");
        notSo("1=2 or 1=2");
        so("1=2 or 1=2 or 1=1");
        so("1=1 and 1=1");
        notSo("1=1 and 1=2");
        notSo("1=2 and 1=1");
        notSo("1=1 and 1=1 and 1=2");
        // An "and" is closer than an "or".
        so("1=1 or 1=1 and 1=2");
        so("1=2 and 1=1 or 1=1");
        notSo("1=2 or 1=1 and 1=2");
        so("1=2 and 1=2 or 1=1 and 1=1");
        refused("buy 1 if 1=1 or", 15, 0);
        refused("buy 1 if 1=1 and", 16, 0);
        refused("buy 1 if or 1=1", 9, 0);
        refused("buy 1 if and 1=1", 9, 0);
        refused("buy 1 if 1=1 and or 1=1", 17, 0);
        refused("buy 1 if 1=1 1=1", 13, 0);
        refused("buy 1 or 1=1", 6, 0);
    }

    @Sentence(promise = 5, says = "FACT: not FACT | [ TEST ] (these brackets are signs) |")
    static void p05NotAndBrackets() {
        so("not 1=2");
        notSo("not 1=1");
        so("not not 1=1");
        notSo("not not 1=2");
        String table = "table 1 9;land 9 1 0;land 9 1 0";
        Held.due("not, and nothing around it", Held.by("buy 1 if not 1=1", table).week(), 0);
        Held.due("not not", Held.by("buy 1 if not not 1=2", table).week(), 0);
        Held.due("not, or", Held.by("buy 1 if not 1=1 or not 2=2", table).week(), 0);
        // A "not" is closer than an "and" and an "or".
        so("not 1=2 or 1=1");
        notSo("not 1=2 and 1=2");
        so("not [1=1 and 1=2]");
        notSo("not [1=2 or 1=1]");
        notSo("[1=1 or 1=1] and 1=2");
        so("[[1=1]]");
        refused("buy 1 if []", 10, 0);
        refused("buy 1 if [1=1", 13, 0);
        refused("buy 1 if [1=1;buy 1", 13, 0);
        refused("buy 1 if 1=1]", 12, 0);
        refused("buy 1 if not", 12, 0);
        refused("buy 1 if not ]", 13, 0);
        refused("buy 1 if [1]=1", 11, 0);
        refused("buy [1]", 4, 0);
        refused("buy not 1", 4, 0);
        refused("buy 1 if (1=1)", 9, 0);
        refused("buy 1 if 1=not 1", 11, 0);
    }

    @Sentence(promise = 5, says = "SUM SIGN SUM, SIGN one of < <= = >= >.")
    static void p05SignsAtTheirLimits() {
        so("4<5");
        notSo("5<5");
        notSo("6<5");
        so("4<=5");
        so("5<=5");
        notSo("6<=5");
        notSo("4=5");
        so("5=5");
        notSo("6=5");
        notSo("4>=5");
        so("5>=5");
        so("6>=5");
        notSo("4>5");
        notSo("5>5");
        so("6>5");
        // Compared as whole numbers, not as a difference that goes round.
        notSo(TWO_60 + "*8>0");
        so(TWO_60 + "*8<1");
        so(TWO_60 + "*8<" + TWO_60 + "*8-1");
    }

    @Sentence(promise = 5, says = "SIGN one of < <= = >= >.")
    static void p05NoOtherSigns() {
        refused("buy 1 if 1", 10, 0);
        refused("buy 1 if 1 1", 11, 0);
        refused("buy 1 if 1<", 11, 0);
        refused("buy 1 if 1<=", 12, 0);
        refused("buy 1 if <1", 9, 0);
        refused("buy 1 if 1==1", 11, 0);
        refused("buy 1 if 1=<1", 11, 0);
        refused("buy 1 if 1=>1", 11, 0);
        refused("buy 1 if 1<>1", 11, 0);
        refused("buy 1 if 1< =1", 12, 0);
        refused("buy 1 if 1> =1", 12, 0);
        refused("buy 1 if 1<==1", 12, 0);
        refused("buy 1 if 1!=1", 10, 0);
        refused("buy 1 if 1=1=1", 12, 0);
        refused("buy 1<2", 5, 0);
    }

    @Sentence(promise = 5, says = {"SUM: TERM { (+ or -) TERM }.", "TERM: VALUE { (* or / or %) VALUE }."})
    static void p05SumsOfTerms() {
        so("2+3*4=14");
        so("2*3+4=10");
        so("10-2-3=5");
        so("10-2+3=11");
        so("10-2*3-1=3");
        so("100/10/5=2");
        so("100/10*5=50");
        so("17%10%4=3");
        so("2*7/4=3");
        so("7/4*2=2");
        so("7%4*2=6");
        so("1-2+1=0");
        so("1-2<0");
        so("0-1*3+3=0");
        refused("buy +1", 4, 0);
        refused("buy -1", 4, 0);
        refused("buy *1", 4, 0);
        refused("buy 1+", 6, 0);
        refused("buy 1-", 6, 0);
        refused("buy 1*", 6, 0);
        refused("buy 1/", 6, 0);
        refused("buy 1%", 6, 0);
        refused("buy 1++1", 6, 0);
        refused("buy 1*-1", 6, 0);
        refused("buy 1^1", 5, 0);
    }

    @Sentence(promise = 5, says = "VALUE: NUMBER (1 to 5 digits, as far as digits go on) | WORD.")
    static void p05NumbersOfOneToFiveDigits() {
        so("0=00000");
        so("7=00007");
        so("99999=99998+1");
        so("99999>9999*10");
        taken("buy 0");
        taken("buy 99999");
        taken("buy 00000");
        refused("buy 100000", 4, 1);
        refused("buy 000000", 4, 1);
        refused("buy 000001", 4, 1);
        refused("buy 1 if 1=123456", 11, 1);
        refused("buy " + "9".repeat(396), 4, 1);
        so("12=10+2");
        refused("buy 1 2", 6, 0);
        refused("buy 12men", 6, 0);
        refused("buy men12", 7, 0);
        refused("buy 1 234567", 6, 0);
    }

    @Sentence(promise = 5, says =
        "WORDS (small letters, as far as these go on) of a LAND and of another one from which it CAN buy:")
    static void p05WordsAsFarAsLettersGoOn() {
        refused("buymen", 0, 0);
        refused("bu y 1", 0, 0);
        refused("buy me", 4, 0);
        refused("buy mens", 4, 0);
        refused("buy menmen", 4, 0);
        refused("buy mena", 4, 0);
        refused("buy menz", 4, 0);
        refused("buy Men", 4, 0);
        refused("buy mEn", 4, 0);
        refused("buy men if sun=1and hay=1 orsun=1", 26, 0);
        refused("buy 1 iff 1=1", 6, 0);
        refused("buy 1 if not1=1 and nothay=1", 20, 0);
        taken("buy1if1=1and1=1or not1=1");
        refused("buy " + "m".repeat(396), 4, 0);
        // Of one from which it can't buy no word is asked: no sun there, so nothing is bought.
        SunTable x = Held.by("buy theirmen", "table 1 1;land 9 0 0;land 9 0 0;land 1 1 0");
        x.week();
        Held.due("from the one that has sun", x.land(0, 5), 2);
    }

    @Sentence(promise = 5, says = {
        "land, other, men, sun, hay, barn (of the first),",
        "theirmen, theirsun, theirhay (of the other one)"})
    static void p05WordsOfTheTwoLands() {
        so("land=0");
        so("other=1");
        so("men=9");
        so("sun=3");
        so("hay=30");
        so("barn=0");
        so("theirmen=5");
        so("theirsun=6");
        so("theirhay=7");
        String table = "table 2 9;land 9 3 30;land 5 6 7";
        // Behind a week: 0 has reaped 9 of 30, and has two suns; 1 has reaped 5 of 7, and has five.
        dueTest(table, 1, "barn=9 and hay=21 and sun=2 and theirhay=2 and theirsun=5", true);
        SunTable x = Held.by("buy 1 if land=1 and other=0", table);
        Held.due("the other way round", x.week(), 1);
        Held.due("land 1 from 0", x.land(1, 5), 0);
        refused("buy theirbarn", 4, 0);
        refused("buy stale", 4, 0);
    }

    @Sentence(promise = 5, says = "rate, soon (")
    static void p05TheRateAsItIsNow() {
        so("rate=2");
        SunTable x = Held.by("buy 1 if rate=9 and land=0", "table 1 9;land 9 0 9;land 0 1 0");
        Held.due("by rate 1", x.week(), 0);
        x.set(9);
        Held.due("by rate 9", x.week(), 1);
    }

    @Sentence(promise = 5, says =
        "soon (in how many WEEKS the next told SUN comes to the first, behind this WEEK; 99 without), week.")
    static void p05SoonIsBehindThisWeek() {
        String table = "table 1 9;land 9 0 9;land 0 9 0;sun 0 0;sun 0 1;sun 0 1;sun 0 60;sun 1 2";
        dueTest(table, 0, "soon=1", true);
        dueTest(table, 1, "soon=59", true);
        dueTest(table, 2, "soon=58", true);
        dueTest(table, 59, "soon=1", true);
        dueTest(table, 60, "soon=99", true);
        dueTest(table, 61, "soon=99", true);
        dueTest("table 1 9;land 9 0 9;land 0 9 0;sun 0 60", 0, "soon=60", true);
        dueTest("table 1 9;land 9 0 9;land 0 9 0;sun 0 0", 0, "soon=99", true);
        dueTest("table 1 9;land 9 0 9;land 0 9 0;sun 1 5", 0, "soon=99", true);
    }

    @Sentence(promise = 5, says = "week. / is")
    static void p05TheWeekItIs() {
        String table = "table 1 9;land 9 0 9;land 0 9 0";
        dueTest(table, 0, "week=0", true);
        dueTest(table, 1, "week=1", true);
        dueTest(table, 99, "week=99", true);
    }

    @Sentence(promise = 5, says = "/ is towards 0, % its rest,")
    static void p05TowardsZero() {
        so("7/2=3");
        so("6/2=3");
        so("1/2=0");
        so("7%2=1");
        so("6%2=0");
        so("1%2=1");
        // Below 0 a TERM comes by going round alone: 2 to the 63 and 3 times 2 to the 62 are such.
        long below = (1L << 60) * 8;
        so(TWO_60 + "*8%7+7=" + (below % 7 + 7));
        so(TWO_60 + "*8/32768/32768/32768/32768/3+3=" + (-8 / 3 + 3));
        so(TWO_60 + "*12/32768/32768/32768/32768/3+2=" + (-4 / 3 + 2));
        so(TWO_60 + "*12%3+3=" + ((1L << 60) * 12 % 3 + 3));
    }

    @Sentence(promise = 5, says = "both 0 by 0;")
    static void p05ByZero() {
        so("7/0=0");
        so("7%0=0");
        so("0/0=0");
        so("0%0=0");
        so("7/barn=0");
        so("7%barn+5=5");
        so("9*7/0+4=4");
        so(TWO_60 + "*8/0=0");
        so(TWO_60 + "*8%0=0");
    }

    @Sentence(promise = 5, says = "all goes round in 64 bits.")
    static void p05RoundIn64Bits() {
        so(TWO_60 + "*7>0");
        so(TWO_60 + "*8<0");
        so(TWO_60 + "*16=0");
        so(TWO_60 + "*17=" + TWO_60);
        so(TWO_60 + "*8-1>0");
        so(TWO_60 + "*8-1+1<0");
        so(TWO_60 + "*8+" + TWO_60 + "*8=0");
        so("0-" + TWO_60 + "*8<0");
        // Nothing goes round in 32 bits.
        so("65536*65536>0");
        so("32768*65536>0");
        SunTable x = Held.by("buy " + TWO_60 + "*other", "table 1 1;land 5 0 5;land 0 1 0;land 0 1 0");
        x.week();
        Held.due("the greater of two great ones", x.land(0, 5), 2);
    }

    @Sentence(promise = 5, says = "Blanks (32) stand between as one likes.")
    static void p05BlanksAsOneLikes() {
        taken("   buy   1  +  1   if   [  not  1  <=  1  ]   ;   buy  2   ");
        taken("buy1+1if[not1<=1];buy2");
        refused("buy\t1", 3, 0);
        refused("buy 1" + (char) 0, 5, 0);
        refused("buy 1" + (char) 160, 5, 0);
        refused("b uy 1", 0, 0);
        refused("buy 1 if 1 < = 1", 13, 0);
    }

    @Sentence(promise = 5, says = "[ and not lie within one another 10 deep at most;")
    static void p05TenDeep() {
        String open = "buy 1 if ";
        taken(open + "[".repeat(10) + "1=1" + "]".repeat(10));
        refused(open + "[".repeat(11) + "1=1" + "]".repeat(11), 9 + 10, 2);
        taken(open + "not ".repeat(10) + "1=1");
        refused(open + "not ".repeat(11) + "1=1", 9 + 40, 2);
        taken(open + "[not ".repeat(5) + "1=1" + "]".repeat(5));
        refused(open + "[not ".repeat(5) + "[1=1]" + "]".repeat(5), 9 + 25, 2);
        refused(open + "[not ".repeat(5) + "not 1=1" + "]".repeat(5), 9 + 25, 2);
        // What stands side by side is not within one another.
        String ten = "[".repeat(10) + "1=1" + "]".repeat(10);
        taken(open + ten + " and " + ten + " or " + "not ".repeat(10) + "1=1");
        taken(open + ten + ";" + open + ten);
        refused(open + ten + " and [" + ten + "]", 9 + 23 + 5 + 10, 2);
        so("not ".repeat(8) + "1=1");
        notSo("not ".repeat(9) + "1=1");
    }

    @Sentence(promise = 5, says = "at most 60 VALUES (of SUMS) and FACTS made of a SIGN, together.")
    static void p05SixtyValuesAndFacts() {
        taken(SIXTY);
        refused(SIXTY + "+1", 4 + 120, 3);
        taken("buy 1" + "+1".repeat(56) + " if 1=1");
        refused("buy 1" + "+1".repeat(57) + " if 1=1", 125, 3);
        // 1 and 19 facts of 3 each, and two more: 60.
        String facts = "buy 1 if 1=1" + " and 1=1".repeat(18);
        taken(facts + "+1+1");
        refused(facts + "+1+1+1", facts.length() + 5, 3);
        // 12 clauses of 5 each: counted over all of them.
        taken("buy 1+1+1+1+1" + ";buy 1+1+1+1+1".repeat(11));
        refused("buy 1+1+1+1+1+1" + ";buy 1+1+1+1+1".repeat(11), 15 + 14 * 11 - 1, 3);
        // What joins facts is none: "not", brackets, "and" and "or".
        taken("buy 1" + "+1".repeat(50) + " if [[not [1=1]]] or not 1=1 and [1=1]");
    }

    @Sentence(promise = 5, says = "FAULTS, the first along the text, 1 + 8 * its place and:")
    static void p05TheFirstFaultAlongTheText() {
        refused("buy 1+;buy 123456", 6, 0);
        refused("buy 123456;bay", 4, 1);
        refused("buy 1 if [1=1;" + TWELVE, 13, 0);
        refused("buy " + "1+".repeat(61) + "x", 4 + 120, 3);
        refused("buy x" + "+1".repeat(61), 4, 0);
    }

    @Sentence(promise = 5, says = "0 a byte or WORD that can't stand there, or the end (behind the last byte);")
    static void p05AByteAWordOrTheEnd() {
        refused("buy 1 &", 6, 0);
        refused("buy 1 and", 6, 0);
        refused("buy 1 rate", 6, 0);
        refused("buy and", 4, 0);
        refused("buy ;", 4, 0);
        refused("buy  ", 5, 0);
        refused("buy 1 if  ", 10, 0);
        refused("buy 1 if 1  ", 12, 0);
        refused("buy 1" + (char) 255, 5, 0);
        refused("buy 1 if 1=1 then", 13, 0);
    }

    @Sentence(promise = 5, says = "1 a NUMBER of more digits, or not as told;")
    static void p05ANumberOfSixDigits() {
        refused("buy 1+000000", 6, 1);
        refused("buy 1 if 1=1 and 999999=1", 17, 1);
        refused("buy 1*4294967297", 6, 1);
    }

    @Sentence(promise = 5, says = "2 too deep (at the sign that opens, or the word not);")
    static void p05TooDeepAtWhatOpens() {
        String ten = "buy 1 if " + "[not ".repeat(5);
        refused(ten + "   [", ten.length() + 3, 2);
        refused(ten + "   not", ten.length() + 3, 2);
        refused("buy 1 if " + "[".repeat(10) + "1=1 or [1=1", 26, 2);
    }

    @Sentence(promise = 5, says = "3 one VALUE or FACT too many (at its first byte; of a FACT at its SIGN);")
    static void p05OneTooManyAtItsFirstByte() {
        refused(SIXTY + "+  12345", SIXTY.length() + 3, 3);
        refused(SIXTY + "+  theirmen", SIXTY.length() + 3, 3);
        refused(SIXTY + ";  buy  7", SIXTY.length() + 8, 3);
        refused(SIXTY + " if  1=1", SIXTY.length() + 5, 3);
        // 59 and a value are 60: the fact is one too many, at its sign.
        String most = "buy 1" + "+1".repeat(58) + " if 1";
        for (String sign : new String[] {"<", "<=", "=", ">=", ">"}) {
            refused(most + "  " + sign + "1", most.length() + 2, 3);
        }
        // 58, a value and a fact are 60: the value behind the sign is one too many.
        String more = "buy 1" + "+1".repeat(57) + " if 1<=";
        refused(more + " 1", more.length() + 1, 3);
    }

    @Sentence(promise = 5, says = "4 one CLAUSE too many")
    static void p05OneClauseTooMany() {
        refused(TWELVE + ";   buy 1", 75, 4);
        refused(TWELVE + ";buy x", 72, 4);
        refused(TWELVE + ";buy 123456", 72, 4);
    }

    @Sentence(promise = 5, says = "Of one place the least.")
    static void p05OfOnePlaceTheLeast() {
        refused(TWELVE + ";bay 1", 72, 0);
        refused(TWELVE + ";", 72, 0);
        refused(TWELVE + ";1", 72, 0);
        refused(SIXTY + "+123456", SIXTY.length() + 1, 1);
        refused(SIXTY + "+mens", SIXTY.length() + 1, 0);
        refused(SIXTY + "+", SIXTY.length() + 1, 0);
        refused(SIXTY + "+[", SIXTY.length() + 1, 0);
        String most = "buy 1" + "+1".repeat(58) + " if 1";
        refused(most + " ;", most.length() + 1, 0);
        refused(most + " 123456", most.length() + 1, 0);
        refused("buy 1 234567", 6, 0);
        String ten = "buy 1 if " + "[not ".repeat(5);
        refused(ten + "nots", ten.length(), 0);
        refused(ten + "1=1 [", ten.length() + 4, 0);
        refused(ten + "1=1 not", ten.length() + 4, 0);
    }

    // ---- promise 6

    @Sentence(promise = 6, says = "A RULE is IN FORCE (NONE: none): which was;")
    static void p06WhichWas() {
        SunTable x = Held.with("table 1 1;land 1 0 0;land 0 1 0", "buy 0", "buy 1 if land=0");
        Held.due("the first", x.force(0), -1);
        Held.due("it goes by it", x.ahead(0, 1, 0), 1);
        Held.due("the last", x.force(1), 0);
        Held.due("it goes by it", x.ahead(0, 1, 0), 0);
        Held.due("the same again", x.force(1), 1);
        Held.due("none", x.force(-1), 1);
        Held.due("none again", x.force(-1), -1);
        Held.due("without a rule nobody without hay buys", x.ahead(0, 1, 0), 1);
    }

    @Sentence(promise = 6, says = "-2, and nothing happens, if there is none such.")
    static void p06NoneSuch() {
        SunTable x = new SunTable();
        Held.due("force(0) of none", x.force(0), -2);
        Held.due("force(NONE) of none", x.force(-1), -1);
        for (int i = 0; i < 6; i++) {
            Texts.rule(x, "buy 1");
            Held.due("the last", x.force(i), i - 1);
            Held.due("behind the last", x.force(i + 1), -2);
            Held.due("in force", x.count(4), i);
        }
        int[] was = Held.seen(x);
        Held.due("force(6)", x.force(6), -2);
        Held.due("force(-2)", x.force(-2), -2);
        Held.due("the least", x.force(Integer.MIN_VALUE), -2);
        Held.due("the most", x.force(Integer.MAX_VALUE), -2);
        Held.dueSame("behind these", x, was);
    }

    @Sentence(promise = 6, says = "A RULE is IN FORCE")
    static void p06ARuleMayBeInForceAheadOfATable() {
        SunTable x = new SunTable();
        Texts.rule(x, "buy 1 if land=0");
        Held.due("without a table", x.force(0), -1);
        Texts.table(x, "table 1 1;land 1 0 0;land 0 1 0");
        Held.due("it goes by it", x.week(), 1);
        Held.due("it is no act", x.force(-1), 0);
        Held.due("acts", x.count(12), 1);
    }
}
