/** Promises 18 to 20 and 26: ringings told and judged, and marks. */
final class JudgedTest {
    private static final String PAIRS = "trip 10;person a left at 10 weight 1 cost 1 plain;"
            + "person b right at 20 weight 1 cost 1 plain;person c left at 25 weight 1 cost 1 plain;"
            + "person d right at 26 weight 1 cost 1 plain;";

    public static void main(String[] args) {
        tells();
        judges();
        oneInAMinute();
        byLaw();
        marks();
        marksHoldAll();
        Check.end();
    }

    private static void tells() {
        EvenFerry x = new EvenFerry();
        Check.due("tell(-1)", x.tell(-1), -1);
        Check.due("tell(1440)", x.tell(1440), -1);
        Check.due("tell(0)", x.tell(0), 1);
        Check.due("tell(0) again", x.tell(0), -1);
        Check.due("tell(5)", x.tell(5), 2);
        Check.due("tell(4)", x.tell(4), -1);
        Check.due("count(7)", x.count(7), 2);
        Check.due("clear()", x.clear(), true);
        Check.due("count(7)", x.count(7), 0);
        Check.due("clear() again", x.clear(), true);
        for (int i = 1; i <= 30; i++) {
            Check.due("tell(" + i + ")", x.tell(i), i);
        }
        Check.due("tell of a 31st", x.tell(100), -1);
        Check.due("count(7)", x.count(7), 30);
        x.clear();
        Check.due("tell(1439)", x.tell(1439), 1);
        Check.due("tell behind the last", x.tell(1439), -1);
    }

    private static void judged(EvenFerry x, int minute, int kind) {
        Check.due("judged(0)", x.judged(0), minute);
        Check.due("judged(1)", x.judged(1), kind);
        Check.due("judged(2)", x.judged(2), -1);
        Check.due("judged(-1)", x.judged(-1), -1);
    }

    private static void told(EvenFerry x, int... minutes) {
        x.clear();
        for (int minute : minutes) {
            x.tell(minute);
        }
    }

    private static void judges() {
        EvenFerry x = Check.ferry(PAIRS);
        Check.due("rings()", x.rings(), 2);
        Check.due("ring(1, 0)", x.ring(1, 0), 30);
        judged(x, 20, 2);
        told(x, 20, 30);
        judged(x, -1, -1);
        told(x, 20);
        judged(x, 30, 2);
        told(x, 20, 29);
        judged(x, 29, 1);
        told(x, 20, 31);
        judged(x, 30, 2);
        told(x, 5);
        judged(x, 5, 1);
        told(x, 10, 20);
        judged(x, 10, 1);
        told(x, 20, 30, 40);
        judged(x, 40, 1);
        told(x, 20, 30, 1439);
        judged(x, 1439, 1);
        told(x, 30);
        judged(x, 20, 2);
        EvenFerry none = new EvenFerry();
        judged(none, -1, -1);
        none.tell(0);
        judged(none, 0, 1);
    }

    /** Though it would ring twice in a minute, one is told; the next is due in the minute behind. */
    private static void oneInAMinute() {
        String people = "person a left at 5 weight 1 cost 1 plain;person b left at 5 weight 1 cost 1 plain;"
                + "person c left at 5 weight 1 cost 1 plain;";
        EvenFerry x = Check.ferry("room 1;trip 0;law 1;" + people);
        Check.due("rings()", x.rings(), 3);
        Check.due("ring(2, 0)", x.ring(2, 0), 5);
        told(x, 5);
        judged(x, 6, 2);
        told(x, 5, 6);
        judged(x, 7, 2);
        told(x, 5, 6, 7);
        judged(x, -1, -1);
        told(x, 5, 6, 7, 8);
        judged(x, 8, 1);
        EvenFerry two = Check.ferry("room 1;trip 9;boats 2;law 1;" + people);
        told(two, 5, 6);
        judged(two, 14, 2);
        told(two, 5, 6, 14);
        judged(two, -1, -1);
        told(two, 5, 6, 13);
        judged(two, 13, 1);
    }

    private static void byLaw() {
        EvenFerry x = Check.ferry("law wait=7;law minute=50 or minute=1439;" + PAIRS);
        told(x, 17, 32);
        // By 17 a goes; b waits from 20 on, but the boat is there at 27 again.
        judged(x, 27, 2);
        told(x, 17, 27);
        judged(x, -1, -1);
        x.use(1);
        judged(x, 17, 1);
        told(x, 50);
        judged(x, -1, -1);
        x.clear();
        judged(x, 50, 2);
        Check.due("count(7) behind use", x.count(7), 0);
    }

    private static void marks() {
        EvenFerry x = new EvenFerry();
        for (int mark = 0; mark < 4; mark++) {
            Check.due("mark(" + mark + ", true), nothing there", x.mark(mark, true), false);
        }
        Check.due("mark(-1, false)", x.mark(-1, false), false);
        Check.due("mark(4, false)", x.mark(4, false), false);
        Check.due("mark(4, true)", x.mark(4, true), false);
        Check.due("mark(-1, true)", x.mark(-1, true), false);
        for (int mark = 0; mark < 4; mark++) {
            Check.due("river()", Check.read(x, "room " + (mark + 1) + ";"), 0);
            Check.due("mark(" + mark + ", false)", x.mark(mark, false), true);
        }
        for (int mark = 3; mark >= 0; mark--) {
            Check.due("mark(" + mark + ", true)", x.mark(mark, true), true);
            Check.due("count(3)", x.count(3), mark + 1);
        }
        Check.read(x, "room 9;");
        x.mark(2, false);
        x.mark(1, true);
        Check.due("count(3)", x.count(3), 2);
        x.mark(2, true);
        Check.due("count(3), laid again", x.count(3), 9);
    }

    private static void marksHoldAll() {
        EvenFerry x = Check.ferry("law 0;law 1;" + PAIRS);
        x.use(1);
        x.tell(3);
        x.tell(7);
        x.mark(3, false);
        int rings = x.rings();
        x.tell(8);
        x.use(-1);
        Check.feed(x, "room 5");
        Check.due("mark(3, true)", x.mark(3, true), true);
        Check.due("count(2)", x.count(2), 1);
        Check.due("count(7)", x.count(7), 2);
        Check.due("rings()", x.rings(), rings);
        Check.due("count(8): the tape is not on it", x.count(8), 6);
        Check.due("tell(7): the last one told", x.tell(7), -1);
        Check.due("tell(8)", x.tell(8), 3);
        x.mark(3, true);
        Check.due("count(7): a mark stays as laid", x.count(7), 2);
        Check.due("river() of a fault", Check.read(x, ""), 1 + 16 * 6);
        Check.due("count(0)", x.count(0), 4);
        Check.due("river()", Check.read(x, "room 5;"), 0);
        Check.due("count(7) behind a river", x.count(7), 0);
        Check.due("mark(3, true) behind a river", x.mark(3, true), true);
        Check.due("count(0)", x.count(0), 4);
        Check.due("rings()", x.rings(), rings);
    }
}
