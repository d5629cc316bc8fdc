/** Promises 1, 4, 5 and 27: a new object, people, the law that goes, and counts. */
final class CountTest {
    private static final int[] OTHERS = {Integer.MIN_VALUE, -2, Integer.MAX_VALUE};

    public static void main(String[] args) {
        newObject();
        lastCall();
        people();
        counts();
        otherPeople();
        lawFromNowOn();
        evenLaw();
        otherLaws();
        countEach();
        otherCounts();
        Check.end();
    }

    private static void newObject() {
        Check.says(1, "A river without people.");
        EvenFerry x = new EvenFerry();
        Check.counts(x, 0, 0, -1, 40, 10, 1, 0, 0, 0);
        Check.due("person(0, 0)", x.person(0, 0), -1);
        Check.due("rings()", x.rings(), 0);
        Check.due("ring(0, 0)", x.ring(0, 0), -1);
        Check.due("waits(0, 0)", x.waits(0, 0), -1);
        Check.due("all(0)", x.all(0), 0);
        Check.due("all(1)", x.all(1), 0);
        Check.due("all(2)", x.all(2), 0);
        Check.due("bank(0, 0, 0)", x.bank(0, 0, 0), 0);
        Check.due("bank(1, 1439, 2)", x.bank(1, 1439, 2), 0);
        Check.due("send(0, 0)", x.send(0, 0), -1);
        Check.turnThrows(x, 0, 0);
        Check.due("asks(0)", x.asks(0), -1);
        Check.due("choice(0)", x.choice(0), 0);
        Check.due("choice(1)", x.choice(1), 0);
        Check.due("chosen(0)", x.chosen(0), 0);
        Check.due("rests()", x.rests(), 1);
        Check.due("rest(0)", x.rest(0), 0);
        Check.due("judged(0)", x.judged(0), -1);
        Check.due("judged(1)", x.judged(1), -1);
        Check.due("likely(2, 0)", x.likely(2, 0), 1);
        Check.due("likely(2, 1)", x.likely(2, 1), 2);
        Check.due("best()", x.best(), -1);
        Check.due("mark(0, true)", x.mark(0, true), false);
    }

    private static void lastCall() {
        Check.says(1, "An object is used for at most 512 calls after it has been made");
        EvenFerry x = new EvenFerry();
        for (int call = 1; call <= 511; call++) {
            if (call % 2 == 1) {
                x.feed(0x6C617720313B2020L, 0, 0);
            } else {
                Check.due("river(), call " + call, x.river(), 0);
            }
        }
        Check.due("river(), call 512", x.river(), 0);
        EvenFerry y = new EvenFerry();
        for (int call = 1; call <= 512; call++) {
            Check.due("feed(32, 0, 0), call " + call, y.feed(32, 0, 0), call);
        }
    }

    private static EvenFerry sixKinds() {
        return Check.ferry("person a left at 9 weight 1 cost 2 plain;person b right at 8 weight 3 cost 4 dog;"
                + "person c left at 7 weight 5 cost 6 child;person d right at 6 weight 7 cost 8 cart;"
                + "person e left at 5 weight 9 cost 10 turner;person f right at 4 weight 11 cost 12 chooser;");
    }

    private static void column(EvenFerry x, int what, int... due) {
        for (int person = 0; person < due.length; person++) {
            Check.due("person(" + person + ", " + what + ")", x.person(person, what), due[person]);
        }
    }

    private static void people() {
        EvenFerry x = sixKinds();
        Check.says(4, "Of a person, what 0: side (0 left, 1 right)");
        column(x, 0, 0, 1, 0, 1, 0, 1);
        Check.says(4, "1: when it comes, 2: weight, 3: cost");
        column(x, 1, 9, 8, 7, 6, 5, 4);
        column(x, 2, 1, 3, 5, 7, 9, 11);
        column(x, 3, 2, 4, 6, 8, 10, 12);
        Check.says(4, "4: KIND (0 plain, 1 dog, 2 child, 3 cart, 4 turner, 5 chooser)");
        column(x, 4, 0, 1, 2, 3, 4, 5);
        Check.says(4, "5: COUNT");
        column(x, 5, 2, 0, 1, 4, 2, 2);
    }

    private static void counts() {
        Check.says(4, "COUNT: of a dog 0, of a child 1, of a cart 4, of others 2.");
        column(sixKinds(), 5, 2, 0, 1, 4, 2, 2);
    }

    private static void otherPeople() {
        Check.says(4, "5: COUNT; NONE: others.");
        EvenFerry x = sixKinds();
        for (int what = 0; what < 6; what++) {
            Check.due("person(-1, " + what + ")", x.person(-1, what), -1);
            Check.due("person(5, " + what + ")", x.person(5, what) != -1, true);
            Check.due("person(6, " + what + ")", x.person(6, what), -1);
            Check.due("person(16, " + what + ")", x.person(16, what), -1);
            for (int other : OTHERS) {
                Check.due("person(" + other + ", " + what + ")", x.person(other, what), -1);
                Check.due("person(" + what + ", " + other + ")", x.person(what, other), -1);
            }
            Check.due("person(" + what + ", 6)", x.person(what, 6), -1);
            Check.due("person(" + what + ", -1)", x.person(what, -1), -1);
        }
    }

    private static final String PAIR = People.plain("a", "left", 10) + People.plain("b", "right", 20);

    private static void lawFromNowOn() {
        Check.says(5, "The LAW goes from now on");
        EvenFerry x = Check.ferry("law minute=30;law minute=40;law minute=50;law minute=60;" + PAIR);
        int[] order = {3, 0, 2, 1, 1};
        for (int law : order) {
            Check.due("use(" + law + ")", x.use(law), true);
            Check.due("count(2)", x.count(2), law);
            Check.due("ring(0, 0)", x.ring(0, 0), 30 + 10 * law);
            Check.due("waits(0, 0)", x.waits(0, 0), 20 + 10 * law);
            Check.due("all(0)", x.all(0), 30 + 20 * law);
            Check.due("bank(0, 45, 0)", x.bank(0, 45, 0), law < 2 ? 0 : 1);
            Check.due("send(40, 0)", x.send(40, 0), law == 1 ? 0 : -1);
            Check.due("choice(0)", x.choice(0), 30 + 20 * law);
            Check.due("judged(0)", x.judged(0), 30 + 10 * law);
        }
    }

    private static void evenLaw() {
        Check.says(5, "(NONE: left = right and 0 < left): true");
        EvenFerry x = Check.ferry("law minute=30;" + PAIR);
        Check.due("use(-1)", x.use(EvenFerry.NONE), true);
        Check.due("count(2)", x.count(2), -1);
        Check.due("ring(0, 0)", x.ring(0, 0), 20);
        EvenFerry none = Check.ferry(PAIR);
        Check.due("use(-1) without laws", none.use(-1), true);
        Check.due("rings()", none.rings(), 1);
        EvenFerry children = Check.ferry("law 0;" + PAIR.replace("plain", "child"));
        children.use(-1);
        Check.due("ring(0, 0) of children: 0 is less than 1", children.ring(0, 0), 20);
        EvenFerry uneven = Check.ferry("law 1;" + PAIR + People.one("c", "left", 15, "child"));
        uneven.use(-1);
        Check.due("rings() of 3 and 2", uneven.rings(), 0);
        EvenFerry dogs = Check.ferry("law 1;" + PAIR.replace("plain", "dog"));
        Check.due("rings()", dogs.rings(), 2);
        dogs.use(-1);
        Check.due("rings() of dogs: 0 is not less than 0", dogs.rings(), 0);
    }

    private static void otherLaws() {
        Check.says(5, "true; false: others.");
        EvenFerry x = Check.ferry("law 1;law 0;");
        x.use(1);
        int[] others = {2, 3, 4, -2, Integer.MIN_VALUE, Integer.MAX_VALUE};
        for (int law : others) {
            Check.due("use(" + law + ")", x.use(law), false);
            Check.due("count(2) stays", x.count(2), 1);
        }
        EvenFerry four = Check.ferry("law 1;law 1;law 1;law 1;");
        Check.due("use(3)", four.use(3), true);
        Check.due("use(4)", four.use(4), false);
        Check.due("use(0) without laws", new EvenFerry().use(0), false);
    }

    private static void countEach() {
        EvenFerry x = Check.ferry("room 3;trip 4;boats 2;law 0;law 1;law 1;" + PAIR + People.one("c", "left", 5, "chooser")
                + People.one("d", "left", 5, "chooser"));
        x.use(2);
        x.tell(6);
        x.tell(7);
        x.tell(8);
        Check.feed(x, "seven..");
        Check.says(27, "What 0: persons, 1: laws");
        Check.counts(x, 4, 3);
        Check.says(27, "2: the LAW that goes (NONE: none told)");
        Check.due("count(2)", x.count(2), 2);
        Check.due("count(2) of none told", Check.ferry(PAIR).count(2), -1);
        Check.due("count(2) as told", Check.ferry("law 1;").count(2), 0);
        Check.says(27, "3: room, 4: trip, 5: boats, 6: choosers, 7: TOLD ringings, 8: signs on the TAPE");
        Check.counts(x, 4, 3, 2, 3, 4, 2, 2, 3, 7);
        x.river();
        Check.due("count(8) of a taken tape", x.count(8), 0);
        x.clear();
        Check.due("count(7) behind clear", x.count(7), 0);
    }

    private static void otherCounts() {
        Check.says(27, "NONE for another what.");
        EvenFerry x = Check.ferry(PAIR);
        int[] others = {-1, 9, 10, Integer.MIN_VALUE, Integer.MAX_VALUE};
        for (int what : others) {
            Check.due("count(" + what + ")", x.count(what), -1);
        }
    }
}
