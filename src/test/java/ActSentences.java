/** Promises 10 to 14: what is done by hand, and undone. */
final class ActSentences {
    private ActSentences() {
    }

    private static final int LEAST = Integer.MIN_VALUE;
    private static final int MOST = Integer.MAX_VALUE;

    // ---- promise 10

    @Sentence(promise = 10, says = "SWAP: MEN of the first then;")
    static void p10MenThen() {
        SunTable x = Held.with("table 3 1;land 7 0 1;land 0 2 1");
        Held.due("seven less three", x.swap(0, 1), 4);
        Held.dueLand("first", x, 0, 4, 1, 1, 0);
        Held.dueLand("other", x, 1, 3, 1, 1, 0);
        Held.due("four less three", x.swap(0, 1), 1);
        Held.due("bought", x.count(10), 2);
        Held.due("acts", x.count(12), 2);
        Held.due("the week stays", x.count(5), 0);
        Held.due("above stale nothing is lost yet", x.land(0, 1), 2);
    }

    @Sentence(promise = 10, says = "SWAP (a LAND BUYS from another one, as it CAN);")
    static void p10AsItCan() {
        SunTable x = Held.with("table 3 1;land 3 0 0;land 2 1 0;land 9 0 0");
        Held.due("from one without sun", x.swap(0, 2), -1);
        Held.due("just enough men", x.swap(0, 1), 0);
        Held.due("they have men now, and there is sun", x.swap(1, 0), 2);
        Held.due("one man too few", x.swap(1, 0), -1);
        Held.due("the sun there is gone", x.swap(2, 0), -1);
        Held.due("from the one that has it", x.swap(2, 1), 6);
        Held.due("no rule is asked", Held.by("buy 0", "table 1 1;land 1 0 0;land 0 1 0").swap(0, 1), 0);
    }

    @Sentence(promise = 10, says = "NONE, and nothing happens, without these (unlike), or if it CAN not.")
    static void p10WithoutThese() {
        SunTable x = Held.with("table 3 1;land 9 5 1;land 2 5 1;land 3 0 1");
        int[] was = Held.seen(x);
        Held.due("alike", x.swap(0, 0), -1);
        Held.due("a land too high", x.swap(0, 3), -1);
        Held.due("a land too high", x.swap(3, 0), -1);
        Held.due("below 0", x.swap(0, -1), -1);
        Held.due("below 0", x.swap(-1, 0), -1);
        Held.due("the least", x.swap(LEAST, 0), -1);
        Held.due("the most", x.swap(0, MOST), -1);
        Held.due("alike, and none", x.swap(-1, -1), -1);
        Held.due("a man too few", x.swap(1, 0), -1);
        Held.due("no sun", x.swap(0, 2), -1);
        Held.dueSame("behind these", x, was);
        Held.due("nothing to undo", x.undo(), -2);
        Held.due("the last land", x.swap(2, 0), 0);
    }

    @Sentence(promise = 10, says = "SWAP (a LAND BUYS from another one")
    static void p10AtMost99And999() {
        SunTable x = Held.with("table 5 9;land 9 0 0;land 0 9 0");
        Inside.men(x, 1, 994);
        Inside.sun(x, 0, 98);
        Held.due("swap", x.swap(0, 1), 4);
        Held.dueLand("99 of sun", x, 0, 4, 99, 0, 0);
        Held.dueLand("999 of men", x, 1, 999, 8, 0, 0);
        Inside.men(x, 0, 5);
        Held.due("swap", x.swap(0, 1), 0);
        Held.dueLand("what is more is lost", x, 0, 0, 99, 0, 0);
        Held.dueLand("what is more is lost", x, 1, 999, 7, 0, 0);
    }

    // ---- promise 11

    @Sentence(promise = 11, says = "GIVE: MEN of the first then;")
    static void p11MenThen() {
        SunTable x = Held.with("table 3 1;land 7 1 1;land 5 2 2");
        Held.due("seven less two", x.give(0, 1, 2), 5);
        Held.dueLand("first", x, 0, 5, 1, 1, 0);
        Held.dueLand("other", x, 1, 7, 2, 2, 0);
        Held.due("nothing is bought", x.count(10), 0);
        Held.due("acts", x.count(12), 1);
    }

    @Sentence(promise = 11, says = "GIVE (a LAND gives another one MEN, 1 to 99, that it has;")
    static void p11OneTo99ThatItHas() {
        SunTable x = Held.with("table 3 1;land 99 0 0;land 98 0 0;land 0 0 0");
        Held.due("none", x.give(0, 1, 0), -1);
        Held.due("one", x.give(0, 1, 1), 98);
        Held.due("99 it has not now", x.give(0, 1, 99), -1);
        Held.due("98 it has", x.give(0, 1, 98), 0);
        Held.due("no men", x.give(0, 1, 1), -1);
        Held.due("100 of 197", x.give(1, 0, 100), -1);
        Held.due("99 of 197", x.give(1, 0, 99), 98);
        Held.due("acts", x.count(12), 3);
    }

    @Sentence(promise = 11, says = "999 at most there);")
    static void p11AtMost999There() {
        SunTable x = Held.with("table 3 1;land 50 0 0;land 0 0 0");
        Inside.men(x, 1, 990);
        Held.due("nine", x.give(0, 1, 9), 41);
        Held.due("just 999", x.land(1, 0), 999);
        Held.due("ten more", x.give(0, 1, 10), 31);
        Held.due("they are lost", x.land(1, 0), 999);
        Held.due("undone", x.undo(), 1);
        Held.due("men are there again", x.land(0, 0), 41);
    }

    @Sentence(promise = 11, says = "NONE, and nothing happens, without these (unlike).")
    static void p11WithoutThese() {
        SunTable x = Held.with("table 3 1;land 7 0 1;land 99 0 1");
        int[] was = Held.seen(x);
        Held.due("alike", x.give(0, 0, 1), -1);
        Held.due("a land too high", x.give(0, 2, 1), -1);
        Held.due("a land too high", x.give(2, 0, 1), -1);
        Held.due("below 0", x.give(-1, 0, 1), -1);
        Held.due("below 0", x.give(0, -1, 1), -1);
        Held.due("the least", x.give(LEAST, 0, 1), -1);
        Held.due("the most", x.give(0, MOST, 1), -1);
        Held.due("no men", x.give(0, 1, 0), -1);
        Held.due("below 0", x.give(0, 1, -1), -1);
        Held.due("the least", x.give(0, 1, LEAST), -1);
        Held.due("the most", x.give(0, 1, MOST), -1);
        Held.due("more than it has", x.give(0, 1, 8), -1);
        Held.due("more than 99", x.give(1, 0, 100), -1);
        Held.dueSame("behind these", x, was);
        Held.due("nothing to undo", x.undo(), -2);
    }

    // ---- promise 12

    @Sentence(promise = 12, says = "FIGHT: how many MEN each loses;")
    static void p12HowManyEachLoses() {
        SunTable x = Held.with("table 3 1;land 8 1 2;land 20 3 4");
        Held.due("half of eight", x.fight(0, 1), 4);
        Held.dueLand("one", x, 0, 4, 1, 2, 0);
        Held.dueLand("other", x, 1, 16, 3, 4, 0);
        Held.due("the other way", x.fight(1, 0), 2);
        Held.due("one", x.land(0, 0), 2);
        Held.due("other", x.land(1, 0), 14);
        Held.due("nothing is bought", x.count(10), 0);
        Held.due("acts", x.count(12), 2);
    }

    @Sentence(promise = 12, says =
        "FIGHT (two LANDS that have MEN: each loses half of what the one with fewer has, upwards);")
    static void p12HalfUpwards() {
        SunTable x = Held.with("table 3 1;land 1 0 0;land 1 0 0;land 3 0 0;land 99 0 0;land 99 0 0");
        Held.due("half of one is one", x.fight(0, 1), 1);
        Held.due("no men are left", x.land(0, 0), 0);
        Held.due("there neither", x.land(1, 0), 0);
        Held.due("no more", x.fight(0, 1), -1);
        Held.due("half of three is two", x.fight(2, 3), 2);
        Held.due("one is left", x.land(2, 0), 1);
        Held.due("97 are left", x.land(3, 0), 97);
        Held.due("half of 97 is 49", x.fight(4, 3), 49);
        Held.due("50 are left", x.land(4, 0), 50);
        Held.due("48 are left", x.land(3, 0), 48);
        Held.due("half of 48 is 24", x.fight(3, 4), 24);
        x = Held.with("table 3 1;land 6 0 0;land 6 0 0");
        Held.due("alike", x.fight(0, 1), 3);
        Held.due("three are left", x.land(0, 0), 3);
        Held.due("three are left there", x.land(1, 0), 3);
    }

    @Sentence(promise = 12, says = "NONE, and nothing happens, without these (unlike).")
    static void p12WithoutThese() {
        SunTable x = Held.with("table 3 1;land 7 0 1;land 0 0 1;land 1 0 1");
        int[] was = Held.seen(x);
        Held.due("alike", x.fight(0, 0), -1);
        Held.due("a land too high", x.fight(0, 3), -1);
        Held.due("a land too high", x.fight(3, 0), -1);
        Held.due("below 0", x.fight(-1, 0), -1);
        Held.due("below 0", x.fight(0, -1), -1);
        Held.due("the least", x.fight(0, LEAST), -1);
        Held.due("the most", x.fight(MOST, 0), -1);
        Held.due("no men there", x.fight(0, 1), -1);
        Held.due("no men here", x.fight(1, 0), -1);
        Held.dueSame("behind these", x, was);
        Held.due("nothing to undo", x.undo(), -2);
        Held.due("one man is enough", x.fight(0, 2), 1);
    }

    // ---- promise 13

    @Sentence(promise = 13, says = "SET: which RATE it was;")
    static void p13WhichItWas() {
        SunTable x = Held.with("table 3 1;land 7 0 1;land 0 5 0");
        Held.due("set(9)", x.set(9), 3);
        Held.due("set(1)", x.set(1), 9);
        Held.due("rate", x.count(0), 1);
        Held.due("acts", x.count(12), 2);
        Held.due("it goes by it", x.swap(0, 1), 6);
    }

    @Sentence(promise = 13, says = "SET (another RATE, 1 to 9).")
    static void p13AnotherOneOf1To9() {
        for (int rate = 1; rate <= 9; rate++) {
            SunTable x = Held.with("table " + rate + " 1");
            for (int other = -1; other <= 11; other++) {
                boolean taken = other >= 1 && other <= 9 && other != rate;
                Held.due(rate + ", then set(" + other + ")", x.set(other), taken ? rate : -1);
                Held.due("rate", x.count(0), taken ? other : rate);
                Held.due("undo", x.undo(), taken ? 0 : -2);
            }
        }
    }

    @Sentence(promise = 13, says = "NONE, and nothing happens, for others (another one), or without a TABLE.")
    static void p13Others() {
        SunTable x = Held.with("table 3 1;land 7 0 1");
        int[] was = Held.seen(x);
        Held.due("set(0)", x.set(0), -1);
        Held.due("set(10)", x.set(10), -1);
        Held.due("the same", x.set(3), -1);
        Held.due("below 0", x.set(-1), -1);
        Held.due("the least", x.set(LEAST), -1);
        Held.due("the most", x.set(MOST), -1);
        Held.dueSame("behind these", x, was);
        x = new SunTable();
        was = Held.seen(x);
        for (int rate = 0; rate <= 10; rate++) {
            Held.due("no table: set(" + rate + ")", x.set(rate), -1);
        }
        Held.dueSame("without a table", x, was);
        Held.due("a table without lands is one", Held.with("table 3 1").set(4), 3);
    }

    // ---- promise 14

    @Sentence(promise = 14, says = {"The last ACT is UNDONE: how many more can be;", "ACTS: a WEEK;"})
    static void p14WeekSwapGive() {
        SunTable x = Held.with("table 3 3;land 9 0 9;land 8 4 5;sun 0 1");
        int[][] was = new int[3][];
        was[0] = Held.seen(x);
        x.week();
        was[1] = Held.seen(x);
        x.swap(0, 1);
        was[2] = Held.seen(x);
        Held.due("give", x.give(1, 0, 4), 10);
        for (int i = 2; i >= 0; i--) {
            Held.due("undo", x.undo(), i);
            Held.dueSame("as it was ahead of act " + i, x, was[i]);
        }
    }

    @Sentence(promise = 14, says = "how many more can be")
    static void p14FightSet() {
        SunTable x = Held.with("table 3 1;land 9 0 9;land 8 2 5;sun 0 1");
        int[][] was = new int[2][];
        was[0] = Held.seen(x);
        x.fight(0, 1);
        was[1] = Held.seen(x);
        Held.due("set", x.set(7), 3);
        for (int i = 1; i >= 0; i--) {
            Held.due("undo", x.undo(), i);
            Held.dueSame("as it was ahead of act " + i, x, was[i]);
        }
    }

    @Sentence(promise = 14, says = "The last 20 ACTS can be UNDONE, the last first.")
    static void p14TwentyAtMost() {
        SunTable x = Held.with("table 1 1;land 50 0 0;land 0 0 0");
        for (int i = 1; i <= 20; i++) {
            x.give(0, 1, 1);
            Held.due("acts", x.count(12), i);
        }
        x.image(0);
        for (int i = 19; i >= 0; i--) {
            Held.due("undo", x.undo(), i);
            Held.due("men", x.land(0, 0), 50 - i);
        }
        Held.due("none can", x.undo(), -2);
        x.back(0);
        x.give(0, 1, 1);
        Held.due("21 acts", x.count(12), 20);
        for (int i = 19; i >= 0; i--) {
            Held.due("undo", x.undo(), i);
            Held.due("men", x.land(0, 0), 50 - i - 1);
        }
        Held.due("the first can't be", x.undo(), -2);
        Held.due("men", x.land(0, 0), 49);
    }

    @Sentence(promise = 14, says = "the last first")
    static void p14FiftyActsAndUndoneBetween() {
        SunTable x = Held.with("table 1 1;land 90 0 0;land 0 0 0");
        for (int i = 0; i < 50; i++) {
            x.give(0, 1, 1);
        }
        Held.due("acts", x.count(12), 20);
        Held.due("undo", x.undo(), 19);
        Held.due("men", x.land(0, 0), 41);
        x.give(0, 1, 5);
        Held.due("one in its place", x.count(12), 20);
        Held.due("undo", x.undo(), 19);
        Held.due("men", x.land(0, 0), 41);
        for (int i = 0; i < 19; i++) {
            x.undo();
        }
        Held.due("thirty stay", x.land(0, 0), 60);
        Held.due("none can", x.undo(), -2);
    }

    @Sentence(promise = 14, says = "-2, and nothing happens: none can.")
    static void p14NoneCan() {
        SunTable x = new SunTable();
        Held.due("a new object", x.undo(), -2);
        x = Held.with("table 3 1;land 9 1 9;land 8 2 5", "buy 1");
        int[] was = Held.seen(x);
        Held.due("no act yet", x.undo(), -2);
        Held.dueSame("behind it", x, was);
        x.swap(0, 0);
        x.give(0, 1, 0);
        x.fight(0, 7);
        x.set(3);
        Held.due("what was refused is no act", x.undo(), -2);
        x.force(0);
        x.seed(5);
        x.note(0, 0, 1);
        x.image(0);
        Held.due("these are no acts", x.undo(), -2);
        Held.due("in force", x.count(4), 0);
        Held.due("x", x.count(13), 5);
        Held.due("notes", x.count(11), 1);
    }

    @Sentence(promise = 14, says = "The last ACT is UNDONE")
    static void p14WhatIsNoActStays() {
        SunTable x = Held.with("table 3 1;land 9 1 9;land 8 2 5", "buy 1", "buy 0");
        x.week();
        x.force(1);
        x.seed(5);
        x.note(0, 0, 1);
        Texts.put(x, "abc");
        Held.due("undo", x.undo(), 0);
        Held.due("in force", x.count(4), 1);
        Held.due("x", x.count(13), 5);
        Held.due("notes", x.count(11), 1);
        Held.due("bytes of the tape", x.count(14), 3);
        Held.due("rules", x.count(3), 2);
        Held.due("an undone one can't be done again", x.undo(), -2);
    }
}
