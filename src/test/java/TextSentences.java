/** Promises 1 to 4: a new object, the TAPE, and the TABLE with its FAULTS. */
final class TextSentences {
    private static final String LANDS_4 = "table 1 1;land 1 1 1;land 1 1 1;land 1 1 1;land 1 1 1";
    private static final String LANDS_5 = LANDS_4 + ";land 1 1 1";
    private static final int BLANKS = 0x20202020;

    private TextSentences() {
    }

    /** A TABLE with all that a new one would take away or must leave. */
    private static SunTable old() {
        SunTable x = Held.by("buy 1", "table 2 3;land 9 1 20;land 5 4 6;sun 1 1;sun 0 60");
        x.seed(77);
        x.note(0, 0, 1);
        x.week();
        x.set(4);
        return x;
    }

    private static void taken(String text, int lands) {
        Held.due("table '" + text + "'", Texts.table(old(), text), lands);
    }

    /** A FAULT of this kind at this place, and all stays, even what can be undone. */
    private static void refused(String text, int place, int kind) {
        SunTable x = old();
        int[] was = Held.seen(x);
        Held.due("table '" + text + "'", Texts.table(x, text), -2 - (1 + 8 * place + kind));
        Held.dueSame("behind '" + text + "'", x, was);
    }

    private static String filled(String text, int length) {
        return text + " ".repeat(length - text.length());
    }

    // ---- promise 1

    @Sentence(promise = 1, says = "No TABLE, no RULES, none IN FORCE.")
    static void p01NothingIsThere() {
        SunTable x = new SunTable();
        for (int what = 0; what <= 14; what++) {
            Held.due("count(" + what + ")", x.count(what), what == 4 ? -1 : 0);
        }
        Held.due("rule 0 can't be in force", x.force(0), -2);
        Held.due("none is in force", x.force(-1), -1);
    }

    @Sentence(promise = 1, says = "No TABLE")
    static void p01WhatNeedsATableIsRefused() {
        SunTable x = new SunTable();
        int[] was = Held.seen(x);
        for (int what = 0; what <= 5; what++) {
            Held.due("land(0, " + what + ")", x.land(0, what), -2);
        }
        Held.due("told", x.told(0, 0), -1);
        Held.due("week", x.week(), -1);
        Held.due("swap", x.swap(0, 1), -1);
        Held.due("give", x.give(0, 1, 1), -1);
        Held.due("fight", x.fight(0, 1), -1);
        Held.due("set", x.set(1), -1);
        Held.due("undo", x.undo(), -2);
        Held.due("ahead", x.ahead(0, 0, 0), -1);
        Held.due("bare", x.bare(0), -1);
        Held.due("row", x.row(0, 1, 0), -3);
        Held.due("best", x.best(1, 0), -1);
        Held.due("quiet", x.quiet(), -1);
        Held.due("worth", x.worth(0, 1, 1), -100000);
        Held.due("need", x.need(0, 1, 1), -1);
        Held.due("game", x.game(0, 1, 1, 0), -100000);
        Held.due("shun", x.shun(1, 0), -1);
        Held.due("mother", x.mother(1, 0), -2);
        Held.due("parts", x.parts(0, 0), -1);
        Held.due("note", x.note(0, 0, -1), -2);
        Held.due("ruled", x.ruled(0), -3);
        Held.due("look", x.look(0, 0), -1);
        Held.due("summers", x.summers(1, 1, 0, 0), -1);
        for (int k = 0; k <= 3; k++) {
            Held.due("back", x.back(k), -1);
        }
        Held.dueSame("behind all these", x, was);
    }

    @Sentence(promise = 1, says = "The constants: `NONE = -1`: None.")
    static void p01TheConstant() {
        Held.due("NONE", SunTable.NONE, -1);
    }

    // ---- promise 2

    @Sentence(promise = 2, says =
        "Twenty bytes come behind the TAPE, of each number the highest first: how many it has;")
    static void p02TheHighestByteIsTheFirst() {
        SunTable x = new SunTable();
        // "tabl" "e 3 " "4;la" "nd 1" " 2 5"
        Held.due("feed", x.feed(0x7461626c, 0x65203320, 0x343b6c61, 0x6e642031, 0x20322035), 20);
        Held.due("table", x.table(), 1);
        Held.due("rate", x.count(0), 3);
        Held.due("stale", x.count(1), 4);
        Held.dueLand("land 0", x, 0, 1, 2, 5, 0);
    }

    @Sentence(promise = 2, says = "come behind the TAPE")
    static void p02TheSecondTwentyComeBehindTheFirst() {
        SunTable x = new SunTable();
        x.feed(0x7461626c, 0x65203320, 0x343b6c61, 0x6e642031, 0x20322035);
        Held.due("the second", x.feed(0x3b6c616e, 0x64203720, 0x38203920, BLANKS, BLANKS), 40);
        Held.due("table", x.table(), 2);
        Held.dueLand("land 0", x, 0, 1, 2, 5, 0);
        Held.dueLand("land 1", x, 1, 7, 8, 9, 0);
    }

    @Sentence(promise = 2, says = "of each number the highest first")
    static void p02EveryByteOfEveryNumberHasItsPlace() {
        for (int place = 0; place < 20; place++) {
            // A byte of all ones is nowhere allowed: the FAULT tells where it came to stand.
            int[] five = {BLANKS, BLANKS, BLANKS, BLANKS, BLANKS};
            five[place / 4] |= 0xff << 24 - 8 * (place % 4);
            SunTable x = new SunTable();
            x.feed(five[0], five[1], five[2], five[3], five[4]);
            Held.due("the byte at " + place, x.table(), -2 - (1 + 8 * place));
        }
    }

    @Sentence(promise = 2, says = "how many it has")
    static void p02TwentyTimesTwentyBytes() {
        SunTable x = new SunTable();
        for (int i = 1; i <= 20; i++) {
            Held.due("feed " + i, x.feed(-1, Integer.MIN_VALUE, Integer.MAX_VALUE, 0, 1), 20 * i);
            Held.due("bytes", x.count(14), 20 * i);
        }
        Held.due("the 21st", x.feed(0, 0, 0, 0, 0), -1);
        Held.due("bytes", x.count(14), 400);
    }

    @Sentence(promise = 2, says = "NONE, and none comes, if it would have more than 400.")
    static void p02RoomForNineteenIsNotEnough() {
        SunTable x = old();
        Texts.put(x, filled("table 1 1;land 7 7 7", 381));
        Held.due("feed at 381", x.feed(-1, -1, -1, -1, -1), -1);
        Held.due("bytes", x.count(14), 381);
        Held.due("none came", x.table(), 1);
    }

    @Sentence(promise = 2, says = "if it would have more than 400")
    static void p02RoomForTwentyIsEnough() {
        SunTable x = old();
        Texts.put(x, filled("table 1 1;land 7 7 7", 380));
        Held.due("feed at 380", x.feed(-1, -1, -1, -1, -1), 400);
        Held.due("they came", x.table(), -2 - (1 + 8 * 380));
    }

    @Sentence(promise = 2, says = "NONE, and none comes")
    static void p02AFullTapeStaysFull() {
        SunTable x = old();
        Texts.put(x, filled("table 1 1", 389) + ";land 7 7 7");
        int[] was = Held.seen(x);
        Held.due("feed at 400", x.feed(-1, -1, -1, -1, -1), -1);
        Held.dueSame("behind it", x, was);
        Held.due("the text is whole", x.table(), 1);
    }

    // ---- promise 3

    @Sentence(promise = 3, says = "The TAPE has its first n bytes alone: n;")
    static void p03TheFirstBytesStay() {
        SunTable x = new SunTable();
        Texts.put(x, "table 1 1;land 9 9 9");
        Held.due("all of them", x.end(20), 20);
        Held.due("nine", x.end(9), 9);
        Held.due("bytes", x.count(14), 9);
        Held.due("no land is left", x.table(), 0);
    }

    @Sentence(promise = 3, says = "alone")
    static void p03WhatWasCutOffDoesNotComeBack() {
        SunTable x = new SunTable();
        Texts.put(x, "table 1 1;land 9 9 9");
        x.end(9);
        Held.due("it has not so many now", x.end(10), -1);
        Held.due("others come behind", x.feed(BLANKS, BLANKS, BLANKS, BLANKS, BLANKS), 29);
        Held.due("no land came back", x.table(), 0);
    }

    @Sentence(promise = 3, says = "NONE, and nothing happens, if it has not so many")
    static void p03OneByteTooMany() {
        SunTable x = new SunTable();
        Held.due("end(1) of none", x.end(1), -1);
        Texts.put(x, "table 1 1;land 9 9 9");
        Held.due("end(21) of 20", x.end(21), -1);
        Held.due("end of the most", x.end(Integer.MAX_VALUE), -1);
        Held.due("bytes", x.count(14), 20);
        Held.due("the text is whole", x.table(), 1);
        Texts.put(x, " ".repeat(400));
        Held.due("end(401) of 400", x.end(401), -1);
        Held.due("end(400) of 400", x.end(400), 400);
    }

    @Sentence(promise = 3, says = "or n is below 0.")
    static void p03BelowNothing() {
        SunTable x = new SunTable();
        Held.due("end(-1) of none", x.end(-1), -1);
        Held.due("end(0) of none", x.end(0), 0);
        Texts.put(x, "table 1 1;land 9 9 9");
        Held.due("end(-1)", x.end(-1), -1);
        Held.due("end of the least", x.end(Integer.MIN_VALUE), -1);
        Held.due("bytes", x.count(14), 20);
        Held.due("end(0)", x.end(0), 0);
        Held.due("no bytes", x.count(14), 0);
        Held.due("an empty text", x.table(), -3);
    }

    // ---- promise 4

    @Sentence(promise = 4, says = "The TAPE, which is empty then, is the TABLE in place of the one there was")
    static void p04InPlaceOfTheOneThereWas() {
        SunTable x = old();
        Held.due("table", Texts.table(x, "table 9 0;land 3 2 1"), 1);
        Held.due("the tape is empty", x.count(14), 0);
        Held.due("rate", x.count(0), 9);
        Held.due("stale", x.count(1), 0);
        Held.dueLand("land 0", x, 0, 3, 2, 1, 0);
        Held.due("land 1 is no more", x.land(1, 0), -2);
        Held.due("men of all", x.count(6), 3);
        Held.due("sun told before", x.told(0, 60), 0);
        Held.due("bought before", x.land(0, 5), -1);
        Held.due("bought so far", x.count(10), 0);
    }

    @Sentence(promise = 4, says = "in place of the one there was")
    static void p04NoSunIsLeftOfAnOldOne() {
        String lands = "land 1 1 1;land 1 1 1;land 1 1 1;land 1 1 1;land 1 1 1";
        String suns = ";sun 0 0;sun 1 1;sun 2 30;sun 3 59;sun 4 60;sun 4 0;sun 0 60";
        SunTable x = Held.with("table 1 1;" + lands + suns);
        Held.due("a faulty one between", Texts.table(x, "table 1 1;" + lands + suns + ";"), -2 - (1 + 8 * 125));
        Held.due("told once", x.told(0, 0), 1);
        Texts.table(x, "table 1 1;" + lands);
        for (int land = 0; land <= 4; land++) {
            for (int week : new int[] {0, 1, 30, 59, 60}) {
                Held.due("told(" + land + ", " + week + ")", x.told(land, week), 0);
            }
        }
    }

    @Sentence(promise = 4, says = "(no NOTES, nothing to be UNDONE;")
    static void p04NoNotesAndNothingToUndo() {
        SunTable x = old();
        Held.due("notes before", x.count(11), 1);
        Held.due("acts before", x.count(12), 2);
        Texts.table(x, "table 9 0;land 3 2 1");
        Held.due("notes", x.count(11), 0);
        Held.due("acts", x.count(12), 0);
        Held.due("undo", x.undo(), -2);
        Held.due("the rate stays", x.count(0), 9);
    }

    @Sentence(promise = 4, says = "the RULE IN FORCE and x stay)")
    static void p04TheRuleInForceAndXStay() {
        SunTable x = old();
        Texts.table(x, "table 1 0;land 3 2 0;land 0 1 0");
        Held.due("in force", x.count(4), 0);
        Held.due("x", x.count(13), 77);
        Held.due("rules", x.count(3), 1);
        // By no rule nobody without hay would buy.
        Held.due("it goes by the rule", x.week(), 2);
    }

    @Sentence(promise = 4, says = ": how many LANDS;")
    static void p04HowManyLands() {
        StringBuilder text = new StringBuilder("table 1 1");
        for (int lands = 0; lands <= 5; lands++) {
            SunTable x = old();
            Held.due(lands + " lands", Texts.table(x, text.toString()), lands);
            Held.due("count(2)", x.count(2), lands);
            text.append(";land 1 1 1");
        }
    }

    @Sentence(promise = 4, says = "-2 - its FAULT, and all stays.")
    static void p04AllStaysByAFault() {
        SunTable x = old();
        x.image(0);
        Held.due("a fault at the end of a table", Texts.table(x, "table 9 9;land 1 1 1;sun 0 1;sun 0 61"),
            -2 - (1 + 8 * 35 + 1));
        Held.due("the tape is empty", x.count(14), 0);
        Held.due("the week is there to be undone", x.undo(), 1);
        Held.due("and undone", x.undo(), 0);
        Held.dueLand("as told before", x, 0, 9, 1, 20, 0);
        Held.dueLand("as told before", x, 1, 5, 4, 6, 0);
        Held.due("sun told before", x.told(1, 1), 1);
        Held.due("sun told with the fault", x.told(0, 1), 0);
        Held.due("the note is so by the rule alone", x.ruled(0), 1);
        Held.due("the image is there", x.back(0), 1);
    }

    @Sentence(promise = 4, says = "-2 - its FAULT")
    static void p04NoTableStaysByAFault() {
        SunTable x = new SunTable();
        Held.due("nothing fed", x.table(), -3);
        Held.due("land of no table", Texts.table(x, "table 1 1;land 1 1"), -2 - (1 + 8 * 18));
        Held.due("no table", x.week(), -1);
        Held.due("no lands", x.count(2), 0);
        Held.due("no rate", x.count(0), 0);
    }

    @Sentence(promise = 4, says = "A TABLE is a text of at most 400 bytes: CLAUSE { ; CLAUSE }")
    static void p04TextsOf400Bytes() {
        taken(filled("table 1 1;land 1 1 1", 400), 1);
        taken(filled("table 1 1", 389) + ";land 1 1 1", 1);
        taken(" ".repeat(380) + "table 1 1;land 1 1 1", 1);
        refused(filled("table 1 1", 399) + ";", 400, 0);
        refused(filled("table 1 1", 399) + "x", 399, 0);
        refused(" ".repeat(400), 400, 0);
        // Every byte a sign of its own.
        refused(";".repeat(400), 0, 0);
        refused("table 1 1" + ";".repeat(391), 10, 0);
    }

    @Sentence(promise = 4, says = "CLAUSE { ; CLAUSE }")
    static void p04ClausesArePartedByOneSign() {
        taken("table 1 1", 0);
        taken("table 1 1;land 1 1 1", 1);
        refused("", 0, 0);
        refused(";", 0, 0);
        refused("table 1 1;", 10, 0);
        refused("table 1 1;;land 1 1 1", 10, 0);
        refused("table 1 1 land 1 1 1", 10, 0);
        refused(";table 1 1", 0, 0);
    }

    @Sentence(promise = 4, says = "40 at most")
    static void p04FortyClauses() {
        String forty = "table 1 1;land 1 1 1" + ";sun 0 5".repeat(38);
        SunTable x = old();
        Held.due("forty", Texts.table(x, forty), 1);
        Held.due("all of them count", x.told(0, 5), 38);
        refused(forty + ";sun 0 5", forty.length() + 1, 4);
        refused(forty + "; land 1 1 1", forty.length() + 2, 4);
        refused(forty + ";sun", forty.length() + 1, 4);
    }

    @Sentence(promise = 4, says = "table NUMBER NUMBER (RATE 1 to 9, men for a week of SUN;")
    static void p04Rate() {
        refused("table 0 1", 6, 1);
        for (int rate = 1; rate <= 9; rate++) {
            SunTable x = old();
            Held.due("rate " + rate, Texts.table(x, "table " + rate + " 1;land 9 0 0;land 0 1 0"), 2);
            Held.due("count(0)", x.count(0), rate);
            Held.due("men for a week of sun", x.swap(0, 1), 9 - rate);
        }
        refused("table 10 1", 6, 1);
        refused("table", 5, 0);
        refused("table ;", 6, 0);
    }

    @Sentence(promise = 4, says = "STALE 0 to 9, how many keep;")
    static void p04Stale() {
        for (int stale = 0; stale <= 9; stale++) {
            SunTable x = old();
            Held.due("stale " + stale, Texts.table(x, "table 9 " + stale + ";land 0 9 0;sun 0 0"), 1);
            Held.due("count(1)", x.count(1), stale);
            x.week();
            Held.due("how many keep", x.land(0, 1), stale);
        }
        refused("table 1 10", 8, 1);
        refused("table 1", 7, 0);
        refused("table 1;", 7, 0);
        refused("table 1 1 1", 10, 0);
    }

    @Sentence(promise = 4, says = "once, the first CLAUSE)")
    static void p04TheTableClauseIsTheFirstAndTheOnlyOne() {
        refused("table 1 1;table 1 1", 10, 4);
        refused("table 1 1;land 1 1 1; table 1 1", 22, 4);
        refused("land 1 1 1;table 1 1", 0, 4);
        refused("sun 0 0;table 1 1", 0, 4);
        refused("land", 0, 4);
    }

    @Sentence(promise = 4, says = "| land NUMBER NUMBER NUMBER (MEN 0 to 99;")
    static void p04Men() {
        SunTable x = Held.with("table 1 1;land 0 1 1;land 99 1 1");
        Held.due("least", x.land(0, 0), 0);
        Held.due("most", x.land(1, 0), 99);
        refused("table 1 1;land 100 1 1", 15, 1);
        refused("table 1 1;land", 14, 0);
        refused("table 1 1;land -1 1 1", 15, 0);
    }

    @Sentence(promise = 4, says = "SUN 0 to 9;")
    static void p04Sun() {
        SunTable x = Held.with("table 1 1;land 1 0 1;land 1 9 1");
        Held.due("least", x.land(0, 1), 0);
        Held.due("most", x.land(1, 1), 9);
        refused("table 1 1;land 1 10 1", 17, 1);
        refused("table 1 1;land 1", 16, 0);
    }

    @Sentence(promise = 4, says = "HAY 0 to 99)")
    static void p04Hay() {
        SunTable x = Held.with("table 1 1;land 1 1 0;land 1 1 99");
        Held.due("least", x.land(0, 2), 0);
        Held.due("most", x.land(1, 2), 99);
        refused("table 1 1;land 1 1 100", 19, 1);
        refused("table 1 1;land 1 1", 18, 0);
        refused("table 1 1;land 1 1 1 1", 21, 0);
    }

    @Sentence(promise = 4, says = "| sun NUMBER NUMBER (a LAND that was told;")
    static void p04SunOfALandThatWasTold() {
        refused("table 1 1;sun 0 0", 14, 1);
        refused("table 1 1;sun 0 0;land 1 1 1", 14, 1);
        taken("table 1 1;land 1 1 1;sun 0 0", 1);
        refused("table 1 1;land 1 1 1;sun 1 0", 25, 1);
        refused("table 1 1;land 1 1 1;sun 1 0;land 1 1 1", 25, 1);
        taken("table 1 1;land 1 1 1;land 1 1 1;sun 1 0", 2);
        taken(LANDS_5 + ";sun 4 0", 5);
        refused(LANDS_5 + ";sun 5 0", LANDS_5.length() + 5, 1);
        refused("table 1 1;land 1 1 1;sun", 24, 0);
    }

    @Sentence(promise = 4, says = "a WEEK, 0 to 60, in which one more SUN comes to it;")
    static void p04SunOfAWeek() {
        SunTable x = Held.with("table 1 9;land 0 0 0;sun 0 0;sun 0 60");
        Held.due("the first", x.told(0, 0), 1);
        Held.due("the last", x.told(0, 60), 1);
        x.week();
        Held.due("one came", x.land(0, 1), 1);
        refused("table 1 1;land 1 1 1;sun 0 61", 27, 1);
        refused("table 1 1;land 1 1 1;sun 0", 26, 0);
        refused("table 1 1;land 1 1 1;sun 0 0 0", 29, 0);
    }

    @Sentence(promise = 4, says = "told already: one more).")
    static void p04SunToldAlready() {
        SunTable x = Held.with("table 1 9;land 0 0 0;sun 0 1;sun 0 1;sun 0 1");
        Held.due("three times", x.told(0, 1), 3);
        Held.weeks(x, 2);
        Held.due("three came", x.land(0, 1), 3);
    }

    @Sentence(promise = 4, says = "LANDS 0 to 4, in the order told.")
    static void p04FiveLandsInTheirOrder() {
        SunTable x = Held.with("table 1 1;land 5 1 1;land 6 1 1;land 7 1 1;land 8 1 1;land 9 1 1");
        for (int land = 0; land <= 4; land++) {
            Held.due("men of " + land, x.land(land, 0), 5 + land);
        }
        Held.due("no land 5", x.land(5, 0), -2);
        taken(LANDS_5, 5);
        refused(LANDS_5 + ";land 1 1 1", LANDS_5.length() + 1, 4);
    }

    @Sentence(promise = 4, says = "It is WEEK 0; all BARNS are empty.")
    static void p04WeekAndBarns() {
        SunTable x = Held.with("table 1 1;land 5 1 5;land 5 1 5");
        Held.weeks(x, 2);
        Held.due("barns before", x.count(9), 10);
        Texts.table(x, "table 1 1;land 5 1 5;land 5 1 5");
        Held.due("week", x.count(5), 0);
        Held.due("barn of 0", x.land(0, 3), 0);
        Held.due("barn of 1", x.land(1, 3), 0);
        Held.due("all barns", x.count(9), 0);
    }

    @Sentence(promise = 4, says = "FAULTS, the first along the text, 1 + 8 * its place and:")
    static void p04TheFirstFaultAlongTheText() {
        refused("table 0 10", 6, 1);
        refused("table 1 10;table 1 1", 8, 1);
        refused("table 1 1;land 1 1 100;sun 7 7;x", 19, 1);
        refused("x table 0", 0, 0);
        refused("    x", 4, 0);
    }

    @Sentence(promise = 4, says = "0 a byte or WORD that can't stand there, or the end (behind the last byte);")
    static void p04AByteAWordOrTheEnd() {
        refused("Table 1 1", 0, 0);
        refused("tables 1 1", 0, 0);
        refused("tablea 1 1", 0, 0);
        refused("tablez 1 1", 0, 0);
        refused("tabl 1 1", 0, 0);
        refused("buy 1", 0, 0);
        refused("1", 0, 0);
        refused("table men 1", 6, 0);
        refused("table 1.1", 7, 0);
        refused("table 1,1", 7, 0);
        refused("table 1 1" + (char) 0, 9, 0);
        refused("table 1 1" + (char) 31, 9, 0);
        refused("table 1 1" + (char) 33, 9, 0);
        refused("table 1 1" + (char) 127, 9, 0);
        refused("table 1 1" + (char) 160, 9, 0);
        refused("table 1 1" + (char) 255, 9, 0);
        // The signs next to the digits and to the small letters.
        refused("table 1 /", 8, 0);
        refused("table 1 :", 8, 0);
        refused("`", 0, 0);
        refused("{", 0, 0);
        refused("table", 5, 0);
        refused("table   ", 8, 0);
        refused("table 1 1;  ", 12, 0);
    }

    @Sentence(promise = 4, says = "1 a NUMBER of more digits, or not as told;")
    static void p04ANumberOfMoreDigits() {
        taken("table 00009 00000", 0);
        refused("table 000009 1", 6, 1);
        refused("table 1 000000", 8, 1);
        refused("table 99999 1", 6, 1);
        refused("table 1 99999", 8, 1);
        refused("table " + "0".repeat(392) + "1", 6, 1);
        // What would go round in 32 bits is no 1.
        refused("table 4294967297 1", 6, 1);
        taken("table 1 1;land 00099 00009 00099;sun 00000 00060", 1);
        refused("table 1 1;land 000099 9 99", 15, 1);
        refused("table 1 1;land 1 1 1;sun 0 000060", 27, 1);
    }

    @Sentence(promise = 4, says =
        "4 one CLAUSE too many, a second table, another CLAUSE ahead of it, a sixth LAND (at its first byte).")
    static void p04ClausesAtTheirFirstByte() {
        String forty = LANDS_5 + ";sun 4 9".repeat(34);
        taken(forty, 5);
        refused(forty + ";  sun 4 9", forty.length() + 3, 4);
        refused(forty + ";table 1 1", forty.length() + 1, 4);
        refused("table 1 1;   table", 13, 4);
        refused("   sun", 3, 4);
        refused("   land", 3, 4);
        refused(LANDS_5 + ";  land", LANDS_5.length() + 3, 4);
        taken(LANDS_4 + ";  land 1 1 1", 5);
    }

    @Sentence(promise = 4, says = "Of one place the least.")
    static void p04OfOnePlaceTheLeast() {
        String forty = LANDS_5 + ";sun 4 9".repeat(34);
        refused(forty + ";suns 4 9", forty.length() + 1, 0);
        refused(forty + ";1", forty.length() + 1, 0);
        refused(forty + ";", forty.length() + 1, 0);
        refused(LANDS_5 + ";lands", LANDS_5.length() + 1, 0);
        refused("lan 1 1 1", 0, 0);
        refused("table 1 1 1000000", 10, 0);
    }

    @Sentence(promise = 4, says = "Blanks (32) stand between as one likes.")
    static void p04BlanksAsOneLikes() {
        taken("  table   1    1  ;  land 1   1 1  ;sun   0 0   ", 1);
        taken("table1 1;land1 1 1;sun0 0", 1);
        refused("table1 1;land1 11;sun0 0", 15, 1);
        refused("ta ble 1 1", 0, 0);
        refused("table\t1 1", 5, 0);
        refused("table\n1 1", 5, 0);
        // Digits that are parted are two numbers.
        refused("table 1 1;land 1 1 1;sun 0 6 0", 29, 0);
    }
}
