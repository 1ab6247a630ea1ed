import java.lang.reflect.Method;
import java.util.Random;

/** Promises 31 to 33: what is counted, IMAGES and going back; and how often an object is used. */
final class KeepSentences {
    private static final int LEAST = Integer.MIN_VALUE;
    private static final int MOST = Integer.MAX_VALUE;

    private KeepSentences() {
    }

    // ---- promise 31

    @Sentence(promise = 31, says =
        "What 0: RATE, 1: STALE, 2: LANDS, 3: RULES, 4: the RULE IN FORCE (NONE), 5: WEEK, 6: MEN of all, 7: "
        + "SUN of all, 8: HAY of all, 9: BARNS of all,")
    static void p31WhatIsThere() {
        SunTable x = Held.with("table 9 8;land 1 2 3;land 10 3 30;land 0 0 0;land 0 1 0;land 5 9 9", "buy 0", "buy 0");
        int[] first = {9, 8, 5, 2, -1, 0, 16, 15, 42, 0};
        for (int what = 0; what < first.length; what++) {
            Held.due("count(" + what + ")", x.count(what), first[what]);
        }
        x.force(1);
        x.week();
        x.set(4);
        // Three of the five with hay and sun reap 1, 10 and 5; of the nine of land 4 eight are left.
        int[] then = {4, 8, 5, 2, 1, 1, 16, 12, 26, 16};
        for (int what = 0; what < then.length; what++) {
            Held.due("count(" + what + ") then", x.count(what), then[what]);
        }
        x.force(-1);
        Held.due("none in force", x.count(4), -1);
    }

    @Sentence(promise = 31, says = "6: MEN of all, 7: SUN of all, 8: HAY of all")
    static void p31TheMostOfAll() {
        SunTable x = Held.with("table 9 9;land 99 9 99;land 99 9 99;land 99 9 99;land 99 9 99;land 99 9 99");
        Held.due("men", x.count(6), 495);
        Held.due("sun", x.count(7), 45);
        Held.due("hay", x.count(8), 495);
        x.week();
        Held.due("barns", x.count(9), 495);
        Texts.table(x, "table 9 9");
        for (int what = 5; what <= 12; what++) {
            Held.due("no lands: count(" + what + ")", x.count(what), 0);
        }
    }

    @Sentence(promise = 31, says = "10: how often anybody bought so far (WEEKS and by hand),")
    static void p31HowOftenAnybodyBought() {
        SunTable x = Held.by("buy 1", "table 1 9;land 9 1 0;land 9 1 0;land 0 0 0");
        x.week();
        Held.due("two in a week", x.count(10), 2);
        x.swap(0, 1);
        Held.due("one by hand", x.count(10), 3);
        x.swap(2, 1);
        Held.due("not what was refused", x.count(10), 3);
        x.give(0, 2, 1);
        x.fight(0, 1);
        Held.due("not what was given or fought", x.count(10), 3);
        x.ahead(0, 100, 0);
        x.summers(1, 1, 1, 1);
        Held.due("not what was asked", x.count(10), 3);
        x.week();
        Held.due("all of them", x.count(10) > 3 ? 1 : 0, 1);
    }

    @Sentence(promise = 31, says = "11: NOTES, 12: ACTS that can be UNDONE, 13: x, 14: bytes of the TAPE.")
    static void p31NotesActsXAndBytes() {
        SunTable x = Held.with("table 1 9;land 9 1 0;land 9 1 0");
        for (int i = 0; i < 12; i++) {
            x.note(0, 0, 1);
            Held.due("notes", x.count(11), Math.min(10, i + 1));
        }
        for (int i = 0; i < 22; i++) {
            x.set(1 + (i + 1) % 2);
            Held.due("acts", x.count(12), Math.min(20, i + 1));
        }
        x.seed(MOST);
        Held.due("x", x.count(13), MOST);
        for (int i = 0; i < 21; i++) {
            x.feed(0, 0, 0, 0, 0);
            Held.due("bytes", x.count(14), Math.min(400, 20 * i + 20));
        }
    }

    @Sentence(promise = 31, says = "NONE for others.")
    static void p31Others() {
        SunTable x = Held.with("table 1 9;land 9 1 0");
        Held.due("-1", x.count(-1), -1);
        Held.due("0", x.count(0), 1);
        Held.due("14", x.count(14), 0);
        Held.due("15", x.count(15), -1);
        Held.due("the least", x.count(LEAST), -1);
        Held.due("the most", x.count(MOST), -1);
    }

    // ---- promise 32

    @Sentence(promise = 32, says = "An IMAGE is made: the WEEK;")
    static void p32TheWeek() {
        SunTable x = new SunTable();
        for (int k = 0; k <= 3; k++) {
            Held.due("without a table", x.image(k), 0);
        }
        Texts.table(x, "table 1 9;land 9 1 0");
        Held.due("week 0", x.image(3), 0);
        Held.weeks(x, 5);
        Held.due("week 5", x.image(3), 5);
        Held.due("made again", x.image(3), 5);
        Held.due("it is no act", x.count(12), 5);
        Inside.week(x, 999);
        Held.due("week 999", x.image(0), 999);
    }

    @Sentence(promise = 32, says = "IMAGES 0 to 3: all but the RULES and the TAPE, as it is")
    static void p32FourOfThem() {
        SunTable x = Held.with("table 1 9;land 0 0 99");
        for (int k = 0; k <= 3; k++) {
            Held.due("image " + k, x.image(k), k);
            x.week();
        }
        for (int k = 3; k >= 0; k--) {
            Held.due("back " + k, x.back(k), k);
            Held.due("hay of " + k, x.land(0, 2), 99 - k);
        }
    }

    @Sentence(promise = 32, says = "NONE without it.")
    static void p32WithoutIt() {
        SunTable x = Held.with("table 1 9;land 0 0 99");
        x.week();
        int[] was = Held.seen(x);
        Held.due("-1", x.image(-1), -1);
        Held.due("4", x.image(4), -1);
        Held.due("the least", x.image(LEAST), -1);
        Held.due("the most", x.image(MOST), -1);
        Held.dueSame("behind these", x, was);
        for (int k = -1; k <= 4; k++) {
            Held.due("none was made", x.back(k), -1);
        }
    }

    // ---- promise 33

    @Sentence(promise = 33, says = "All is as in an IMAGE: the WEEK;")
    static void p33AllIsAsInAnImage() {
        SunTable x = Held.with("table 2 3;land 9 1 20;land 5 4 6;sun 1 1;sun 0 60", "buy 1", "buy 0");
        x.force(0);
        x.seed(77);
        x.note(0, 0, 1);
        x.week();
        x.set(4);
        x.image(2);
        int[] was = Held.seen(x);
        Texts.table(x, "table 9 9;land 1 1 1;land 2 2 2;land 3 3 3;sun 2 1");
        x.force(1);
        x.seed(1);
        x.week();
        Held.due("the week", x.back(2), 1);
        Held.dueSame("all", x, was);
        Held.due("no third land", x.land(2, 0), -2);
        Held.due("the note is so by 0 alone", x.ruled(0), 1);
    }

    @Sentence(promise = 33, says =
        "(the RULE IN FORCE, what can be UNDONE, too); gone back to, it is as it was (these stay).")
    static void p33RulesAndTheTapeStay() {
        SunTable x = Held.with("table 2 3;land 9 1 20;land 5 4 6", "buy 1");
        x.image(0);
        x.force(0);
        Texts.rule(x, "buy 0");
        Texts.put(x, "buy 2");
        Held.due("back", x.back(0), 0);
        Held.due("both rules stay", x.count(3), 2);
        Held.due("the tape stays", x.count(14), 5);
        Held.due("none is in force", x.count(4), -1);
        Held.due("the second can be", x.force(1), -1);
        Held.due("the tape can be a rule", x.rule(), 2);
        x.force(2);
        x.image(1);
        Held.due("back", x.back(0), 0);
        Held.due("back", x.back(1), 0);
        Held.due("in force", x.count(4), 2);
    }

    @Sentence(promise = 33, says = "what can be UNDONE, too")
    static void p33WhatCanBeUndone() {
        SunTable x = Held.with("table 1 9;land 90 0 0;land 0 0 0");
        for (int i = 0; i < 25; i++) {
            x.give(0, 1, 1);
        }
        x.image(0);
        for (int i = 0; i < 20; i++) {
            x.undo();
        }
        Held.due("none can", x.undo(), -2);
        x.image(1);
        for (int times = 0; times < 2; times++) {
            x.back(0);
            Held.due("twenty can", x.count(12), 20);
            for (int i = 19; i >= 0; i--) {
                Held.due("undo", x.undo(), i);
                Held.due("men", x.land(0, 0), 85 - i);
            }
        }
        x.back(0);
        x.give(0, 1, 40);
        Held.due("undo", x.undo(), 19);
        Held.due("men", x.land(0, 0), 65);
        x.back(1);
        Held.due("none can", x.undo(), -2);
        Held.due("men", x.land(0, 0), 85);
    }

    @Sentence(promise = 33, says = "(the RULE IN FORCE, what can be UNDONE, too)")
    static void p33WhatCanBeUndoneIsNotWhatWasDoneSince() {
        SunTable x = Held.with("table 1 9;land 90 0 0;land 0 0 0");
        for (int i = 1; i <= 20; i++) {
            x.give(0, 1, 1);
        }
        x.image(0);
        for (int i = 0; i < 20; i++) {
            x.undo();
        }
        // More than twenty, so that the first that is kept is another one, too.
        for (int i = 0; i < 25; i++) {
            x.set(2 + i % 2);
        }
        x.image(1);
        x.back(0);
        for (int i = 19; i >= 0; i--) {
            Held.due("undo", x.undo(), i);
            Held.due("men", x.land(0, 0), 90 - i);
            Held.due("rate", x.count(0), 1);
        }
        x.back(1);
        for (int i = 19; i >= 0; i--) {
            Held.due("undo", x.undo(), i);
            Held.due("rate", x.count(0), 2 + i % 2);
            Held.due("men", x.land(0, 0), 90);
        }
    }

    @Sentence(promise = 33, says = "All is as in an IMAGE")
    static void p33NotesAsInAnImage() {
        SunTable x = Held.with("table 1 0;land 9 0 0;land 9 0 0;land 9 0 0;sun 2 0;sun 2 1",
            "buy 1 if land=1 and week=1",
            "buy 1 if land=0 and week=1", "buy 1 if land=1 and week=0", "buy 1 if land=0 and other=2 and week=0");
        x.note(1, 1, 2);
        x.image(0);
        x.note(-1, 0, 0);
        x.note(0, 0, 2);
        x.image(1);
        x.note(-1, 0, 0);
        x.note(0, 1, 2);
        x.note(1, 0, 2);
        Held.due("none now", x.ruled(0), 0);
        x.back(0);
        Held.due("one note", x.count(11), 1);
        Held.due("by 0", x.ruled(1), 0);
        Held.due("alone", x.ruled(0), 1);
        x.back(1);
        Held.due("by 3", x.ruled(1), 3);
        Held.due("alone", x.ruled(0), 1);
        x.note(-1, 0, 0);
        x.note(1, 0, 2);
        x.image(2);
        x.back(0);
        x.back(2);
        Held.due("by 1", x.ruled(1), 1);
        x.note(-1, 0, 0);
        x.note(1, 0, -1);
        x.back(2);
        Held.due("by 1 again", x.ruled(1), 1);
    }

    @Sentence(promise = 33, says = "gone back to, it is as it was")
    static void p33TheImageItselfStays() {
        SunTable x = Held.with("table 1 9;land 9 0 9;land 0 2 0");
        x.image(0);
        for (int times = 0; times < 3; times++) {
            Held.due("back", x.back(0), 0);
            Held.dueLand("as it was", x, 0, 9, 0, 9, 0);
            x.week();
            x.note(0, 0, 1);
            Held.due("notes", x.count(11), 1);
        }
        x.back(0);
        Held.due("no note is left", x.count(11), 0);
        x.week();
        x.image(0);
        x.week();
        Held.due("made anew", x.back(0), 1);
        Held.dueLand("as it was then", x, 0, 8, 0, 1, 8);
    }

    @Sentence(promise = 33, says = "gone back to")
    static void p33BackToNoTable() {
        SunTable x = new SunTable();
        x.image(0);
        Texts.table(x, "table 1 9;land 9 0 9;land 0 2 0");
        x.week();
        Held.due("back", x.back(0), 0);
        Held.due("no lands", x.count(2), 0);
        Held.due("no table", x.week(), -1);
        Held.due("no rate", x.count(0), 0);
        Held.due("nothing to undo", x.undo(), -2);
        Held.due("no note", x.note(0, 0, -1), -2);
    }

    @Sentence(promise = 33, says = "NONE, and nothing happens, if it was never made, or without it.")
    static void p33NeverMade() {
        SunTable x = Held.with("table 1 9;land 9 0 9;land 0 2 0");
        x.week();
        x.image(1);
        x.week();
        int[] was = Held.seen(x);
        Held.due("0 was never made", x.back(0), -1);
        Held.due("2 was never made", x.back(2), -1);
        Held.due("3 was never made", x.back(3), -1);
        Held.due("4", x.back(4), -1);
        Held.due("-1", x.back(-1), -1);
        Held.due("the least", x.back(LEAST), -1);
        Held.due("the most", x.back(MOST), -1);
        Held.dueSame("behind these", x, was);
        Held.due("1 was made", x.back(1), 1);
    }

    // ---- how often an object is used

    @Sentence(promise = 31, says = "An object is used for at most 512 calls after it has been made;")
    static void p31TheLastOf512Calls() {
        SunTable x = new SunTable();
        // Four calls, 507 weeks, and the last call.
        Texts.table(x, "table 1 9;land 9 1 0");
        Held.weeks(x, 507);
        Held.due("the 512th call", x.count(5), 507);
    }

    @Sentence(promise = 9, says = "what later calls answer is free.")
    static void p09NoLaterCallThrows() throws ReflectiveOperationException {
        SunTable x = Held.by("buy 1", "table 1 9;land 9 1 9;land 9 1 9");
        Held.weeks(x, 999);
        Held.due("999 weeks", x.count(5), 999);
        Held.due("no more", x.week(), -1);
        Random random = new Random(7);
        int[] numbers = {LEAST, -2, -1, 0, 1, 2, 4, 5, 60, 61, 100, 101, 9999, 10000, MOST};
        for (int i = 0; i < 4000; i++) {
            for (Method method : SunTable.class.getDeclaredMethods()) {
                if (java.lang.reflect.Modifier.isPublic(method.getModifiers()) && random.nextInt(4) == 0) {
                    Object[] values = new Object[method.getParameterCount()];
                    for (int k = 0; k < values.length; k++) {
                        values[k] = numbers[random.nextInt(numbers.length)];
                    }
                    method.invoke(x, values);
                }
            }
        }
    }
}
