/** Promises 18 to 20 and 26: ringings told and judged, and marks. */
final class ToldTest {
    private static final int[] OTHERS = {Integer.MIN_VALUE, -1, Integer.MAX_VALUE};
    // It rings at 20 and, as the boat is there again, at 30.
    private static final String PAIRS = "trip 10;" + People.plain("a", "left", 10) + People.plain("b", "right", 20)
            + People.plain("c", "left", 25) + People.plain("d", "right", 26);

    public static void main(String[] args) {
        thirtyAtMost();
        later();
        howMany();
        otherTold();
        cleared();
        theseAlone();
        oneInItsMinute();
        toldInVain();
        notTold();
        firstMinute();
        judgedOthers();
        fourMarks();
        marksHold();
        laid();
        noMarks();
        Check.end();
    }

    private static void told(EvenFerry x, int... minutes) {
        x.clear();
        for (int i = 0; i < minutes.length; i++) {
            Check.due("tell(" + minutes[i] + ")", x.tell(minutes[i]), i + 1);
        }
    }

    private static void judged(EvenFerry x, int minute, int kind) {
        Check.due("judged(0)", x.judged(0), minute);
        Check.due("judged(1)", x.judged(1), kind);
    }

    private static void thirtyAtMost() {
        Check.says(18, "TOLD ringings, 30 at most");
        EvenFerry x = new EvenFerry();
        for (int i = 1; i <= 30; i++) {
            Check.due("tell(" + i + ")", x.tell(i), i);
        }
        Check.due("tell of a 31st", x.tell(100), -1);
        Check.due("count(7)", x.count(7), 30);
        x.clear();
        Check.due("tell(100)", x.tell(100), 1);
    }

    private static void later() {
        Check.says(18, "each in a later minute than the one ahead");
        EvenFerry x = new EvenFerry();
        Check.due("tell(0)", x.tell(0), 1);
        Check.due("tell(0) again", x.tell(0), -1);
        Check.due("tell(5)", x.tell(5), 2);
        Check.due("tell(4)", x.tell(4), -1);
        Check.due("tell(5) again", x.tell(5), -1);
        Check.due("tell(6)", x.tell(6), 3);
        Check.due("tell(1439)", x.tell(1439), 4);
        Check.due("tell(1439) again", x.tell(1439), -1);
    }

    private static void howMany() {
        Check.says(18, "A ringing is TOLD: how many");
        EvenFerry x = Check.ferry(PAIRS);
        Check.due("tell(3)", x.tell(3), 1);
        Check.due("tell(30)", x.tell(30), 2);
        Check.due("count(7)", x.count(7), 2);
    }

    private static void otherTold() {
        Check.says(18, "how many; NONE: others, 30 are told.");
        EvenFerry x = new EvenFerry();
        Check.due("tell(1440)", x.tell(1440), -1);
        for (int other : OTHERS) {
            Check.due("tell(" + other + ")", x.tell(other), -1);
        }
        Check.due("count(7)", x.count(7), 0);
        for (int i = 0; i < 30; i++) {
            x.tell(i);
        }
        Check.due("tell(1439)", x.tell(1439), -1);
        Check.due("count(7)", x.count(7), 30);
    }

    private static void cleared() {
        Check.says(19, "None is TOLD: true.");
        EvenFerry x = Check.ferry(PAIRS);
        x.tell(20);
        x.tell(30);
        Check.due("clear()", x.clear(), true);
        Check.due("count(7)", x.count(7), 0);
        judged(x, 20, 2);
        Check.due("clear() of none", x.clear(), true);
        Check.due("tell(0)", x.tell(0), 1);
    }

    private static void theseAlone() {
        Check.says(20, "JUDGED: the day is gone through with these alone");
        EvenFerry x = Check.ferry(PAIRS);
        told(x, 20, 30);
        judged(x, -1, -1);
        // Told at 20 alone, c and d wait on: it would ring at 30, when the boat is back.
        told(x, 20);
        judged(x, 30, 2);
        // Each told ringing takes those who wait with it, and the next law is looked at without them.
        EvenFerry other = Check.ferry("trip 5;law wait=4 or wait=7;" + People.plain("a", "left", 5)
                + People.plain("b", "left", 20));
        told(other, 9, 24);
        judged(other, -1, -1);
        told(other, 9);
        judged(other, 24, 2);
    }

    private static void oneInItsMinute() {
        Check.says(20, "(one in its minute at most)");
        String people = People.plains(3, "left", 5);
        EvenFerry x = Check.ferry("room 1;trip 0;law 1;" + people);
        Check.due("ring(2, 0)", x.ring(2, 0), 5);
        // Though it would ring on in that minute, one is told; the next is due in the minute behind.
        told(x, 5);
        judged(x, 6, 2);
        told(x, 5, 6);
        judged(x, 7, 2);
        told(x, 5, 6, 7);
        judged(x, -1, -1);
        told(x, 5, 6, 7, 8);
        judged(x, 8, 1);
        EvenFerry two = Check.ferry("room 1;trip 9;boats 2;law 1;" + people);
        told(two, 5, 6);
        judged(two, 14, 2);
        told(two, 5, 6, 14);
        judged(two, -1, -1);
        EvenFerry last = Check.ferry("room 1;trip 0;law 1;" + People.plains(2, "left", 1439));
        told(last, 1439);
        judged(last, -1, -1);
    }

    private static void toldInVain() {
        Check.says(20, "one is told though the LAW does not hold, nobody waits or no boat is there (it is 1)");
        EvenFerry law = Check.ferry("law minute=50;" + People.plain("a", "left", 10));
        told(law, 49);
        judged(law, 49, 1);
        told(law, 50);
        judged(law, -1, -1);
        EvenFerry nobody = Check.ferry("law 1;" + People.plain("a", "left", 10));
        told(nobody, 9);
        judged(nobody, 9, 1);
        told(nobody, 10, 20);
        judged(nobody, 20, 1);
        told(nobody, 10, 1439);
        judged(nobody, 1439, 1);
        EvenFerry none = new EvenFerry();
        none.tell(0);
        judged(none, 0, 1);
        EvenFerry boat = Check.ferry("trip 10;law 1;" + People.plain("a", "left", 10) + People.plain("b", "left", 12));
        told(boat, 10, 19);
        judged(boat, 19, 1);
        told(boat, 10, 20);
        judged(boat, -1, -1);
        EvenFerry two = Check.ferry("trip 10;boats 2;law 1;" + People.plain("a", "left", 10) + People.plain("b", "left", 12)
                + People.plain("c", "left", 13));
        told(two, 10, 12, 19);
        judged(two, 19, 1);
        told(two, 10, 12, 20);
        judged(two, -1, -1);
    }

    private static void notTold() {
        Check.says(20, "or none is told though it would RING (2)");
        EvenFerry x = Check.ferry(PAIRS);
        judged(x, 20, 2);
        told(x, 20, 31);
        judged(x, 30, 2);
        EvenFerry first = Check.ferry("law 1;" + People.plain("a", "left", 0));
        judged(first, 0, 2);
        EvenFerry last = Check.ferry("law minute=1439;" + People.plain("a", "left", 0));
        judged(last, 1439, 2);
        told(last, 1439);
        judged(last, -1, -1);
        // A law may begin to hold though nobody comes or goes.
        EvenFerry waits = Check.ferry("law wait=7;" + PAIRS);
        told(waits, 17, 32);
        judged(waits, 27, 2);
        told(waits, 17, 27);
        judged(waits, -1, -1);
    }

    private static void firstMinute() {
        Check.says(20, "the first minute in which one is told though");
        EvenFerry x = Check.ferry(PAIRS);
        told(x, 5, 21);
        judged(x, 5, 1);
        told(x, 21, 22);
        judged(x, 20, 2);
        told(x, 20, 29, 31);
        judged(x, 29, 1);
        told(x, 10, 20);
        judged(x, 10, 1);
    }

    private static void judgedOthers() {
        Check.says(20, "JUDGED, what 0: the minute, 1: 1 or 2");
        EvenFerry x = Check.ferry("law 0;law 1;" + PAIRS);
        x.tell(10);
        judged(x, 10, 1);
        x.use(1);
        judged(x, 20, 2);
        Check.due("count(7) behind use", x.count(7), 1);
        Check.says(20, "1: 1 or 2; NONE: another what, all is right.");
        Check.due("judged(2)", x.judged(2), -1);
        for (int other : OTHERS) {
            Check.due("judged(" + other + ")", x.judged(other), -1);
        }
        told(x, 10, 20, 30);
        judged(x, -1, -1);
        judged(new EvenFerry(), -1, -1);
    }

    private static void fourMarks() {
        Check.says(26, "MARKS 0 to 3 hold the RIVER");
        EvenFerry x = new EvenFerry();
        for (int mark = 0; mark < 4; mark++) {
            Check.read(x, "room " + (mark + 1) + ";" + People.plains(mark, "right", mark));
            Check.due("mark(" + mark + ", false)", x.mark(mark, false), true);
        }
        for (int mark = 3; mark >= 0; mark--) {
            Check.due("mark(" + mark + ", true)", x.mark(mark, true), true);
            Check.due("count(3)", x.count(3), mark + 1);
            Check.due("count(0)", x.count(0), mark);
            Check.due("all(0)", x.all(0), mark * (1440 - mark));
        }
        Check.due("mark(4, false)", x.mark(4, false), false);
        Check.due("mark(-1, false)", x.mark(-1, false), false);
    }

    private static void marksHold() {
        Check.says(26, "hold the RIVER, which LAW goes, told ringings");
        EvenFerry x = Check.ferry("room 3;trip 4;boats 2;side 1 of 3;come 0;law 0;law 1;" + PAIRS.substring(8)
                + People.one("e", "left", 3, "chooser"));
        x.use(1);
        x.tell(3);
        x.tell(7);
        x.mark(3, false);
        int[] due = {x.rings(), x.all(0), x.rests(), x.choice(1), x.judged(0), x.best()};
        x.tell(8);
        x.use(-1);
        Check.read(x, "law 0;law 0;law 0;");
        x.tell(1000);
        Check.due("rings() of another river", x.rings(), 0);
        Check.due("rests() of another river", x.rests(), 1);
        Check.due("lots(1, 9, 1) of another river", x.lots(1, 9, 1) > 0, true);
        Check.feed(x, "room 5");
        Check.due("mark(3, true)", x.mark(3, true), true);
        Check.counts(x, 5, 2, 1, 3, 4, 2, 1, 2, 6);
        int[] got = {x.rings(), x.all(0), x.rests(), x.choice(1), x.judged(0), x.best()};
        for (int i = 0; i < due.length; i++) {
            Check.due("answer " + i + " of the marked river", got[i], due[i]);
        }
        Check.due("likely(2, 1)", x.likely(2, 1), 9);
        Check.due("lots(1, 9, 1)", x.lots(1, 9, 1), 0);
        Check.due("tell(7): the last one told", x.tell(7), -1);
        Check.due("tell(8)", x.tell(8), 3);
        EvenFerry full = new EvenFerry();
        for (int i = 0; i < 30; i++) {
            full.tell(i);
        }
        full.mark(0, false);
        full.clear();
        full.mark(0, true);
        Check.due("count(7)", full.count(7), 30);
        Check.due("tell of a 31st", full.tell(100), -1);
    }

    private static void laid() {
        Check.says(26, "A MARK is laid (back: gone back to): true");
        EvenFerry x = Check.ferry("room 2;" + PAIRS);
        x.tell(3);
        Check.due("mark(2, false)", x.mark(2, false), true);
        Check.due("count(7) stays", x.count(7), 1);
        x.tell(4);
        Check.due("mark(2, true)", x.mark(2, true), true);
        Check.due("count(7): as it was laid", x.count(7), 1);
        x.tell(9);
        x.tell(10);
        Check.due("mark(2, true) again", x.mark(2, true), true);
        Check.due("count(7): the mark stays as laid", x.count(7), 1);
        Check.due("tell(4): nothing told since is left", x.tell(4), 2);
        Check.read(x, "room 9;");
        Check.due("mark(2, false) once more", x.mark(2, false), true);
        Check.read(x, "room 8;");
        Check.due("mark(2, true)", x.mark(2, true), true);
        Check.due("count(3): the last one laid", x.count(3), 9);
    }

    private static void noMarks() {
        Check.says(26, "false: none such, nothing is on it (back).");
        EvenFerry x = Check.ferry("room 5;");
        for (int mark = 0; mark < 4; mark++) {
            Check.due("mark(" + mark + ", true), nothing there", x.mark(mark, true), false);
        }
        x.mark(1, false);
        Check.read(x, "room 6;");
        Check.due("mark(0, true)", x.mark(0, true), false);
        Check.due("mark(2, true)", x.mark(2, true), false);
        Check.due("mark(4, true)", x.mark(4, true), false);
        Check.due("mark(4, false)", x.mark(4, false), false);
        for (int other : OTHERS) {
            Check.due("mark(" + other + ", true)", x.mark(other, true), false);
            Check.due("mark(" + other + ", false)", x.mark(other, false), false);
        }
        Check.due("count(3) stays", x.count(3), 6);
        Check.due("mark(1, true)", x.mark(1, true), true);
        Check.due("count(3)", x.count(3), 5);
    }
}
