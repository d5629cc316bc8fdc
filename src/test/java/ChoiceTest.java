/** Promises 14 to 17: which sides to choose, and sides at rest. */
final class ChoiceTest {
    public static void main(String[] args) {
        withoutChoosers();
        two();
        bitsAreNumbersAmongChoosers();
        nothingToPay();
        neverAtRest();
        eight();
        Check.end();
    }

    private static void withoutChoosers() {
        EvenFerry x = Check.ferry("law 1;person a left at 3 weight 1 cost 2 plain;person b left at 4 weight 1 cost 1 dog;");
        Check.due("choice(0)", x.choice(0), 9);
        Check.due("choice(1)", x.choice(1), 0);
        Check.due("chosen(0)", x.chosen(0), 9);
        Check.due("chosen(1)", x.chosen(1), -1);
        Check.due("rests()", x.rests(), 1);
        Check.due("rest(0)", x.rest(0), 0);
        Check.due("rest(1)", x.rest(1), -1);
    }

    private static void two() {
        EvenFerry x = Check.ferry("person a left at 0 weight 1 cost 1 chooser;person b left at 10 weight 1 cost 2 chooser;");
        int night = 1440 + 2 * 1430;
        int[] costs = {night, 10, 10, night};
        for (int bits = 0; bits < 4; bits++) {
            Check.due("chosen(" + bits + ")", x.chosen(bits), costs[bits]);
        }
        Check.due("chosen(4)", x.chosen(4), -1);
        Check.due("chosen(-1)", x.chosen(-1), -1);
        Check.due("choice(0)", x.choice(0), 10);
        Check.due("choice(1), of equal ones the least", x.choice(1), 1);
        Check.due("choice(2)", x.choice(2), -1);
        Check.due("choice(-1)", x.choice(-1), -1);
        Check.due("rests()", x.rests(), 2);
        Check.due("rest(0)", x.rest(0), 1);
        Check.due("rest(1)", x.rest(1), 2);
        Check.due("rest(2)", x.rest(2), -1);
        Check.due("rest(-1)", x.rest(-1), -1);
        Check.due("all(0): as told", x.all(0), night);
        Check.due("person(0, 0): as told", x.person(0, 0), 0);
    }

    private static void bitsAreNumbersAmongChoosers() {
        EvenFerry x = Check.ferry("law right=6;person a right at 0 weight 1 cost 1 plain;"
                + "person b right at 1 weight 1 cost 1 chooser;person c left at 2 weight 1 cost 1 cart;"
                + "person d left at 3 weight 1 cost 1 chooser;");
        int night = 1440 + 1439 + 1438 + 1437;
        int[] costs = {night, night, night, 3 + 2 + 1 + 0};
        for (int bits = 0; bits < 4; bits++) {
            Check.due("chosen(" + bits + ")", x.chosen(bits), costs[bits]);
        }
        Check.due("choice(1)", x.choice(1), 3);
        // Alone nobody gains from 0; from 1 or 2 the other one does.
        Check.due("rests()", x.rests(), 2);
        Check.due("rest(0)", x.rest(0), 0);
        Check.due("rest(1)", x.rest(1), 3);
    }

    private static void nothingToPay() {
        EvenFerry x = Check.ferry("person a left at 0 weight 1 cost 1 plain;person b left at 3 weight 1 cost 0 chooser;");
        Check.due("choice(0)", x.choice(0), 3);
        Check.due("choice(1)", x.choice(1), 1);
        Check.due("rests(): who pays nothing is at rest", x.rests(), 2);
    }

    /** One wants to be where the other is, the other where the one is not. */
    private static void neverAtRest() {
        EvenFerry x = Check.ferry("room 1;trip 9;law lload=3 and rload=0 and minute=5 or (lload=0 and rload=3 and minute=5)"
                + "or(lload=1 and rload=2 or(lload=2 and rload=1)and wait=9);"
                + "person a left at 0 weight 1 cost 1 chooser;person b left at 1 weight 2 cost 1 chooser;");
        int apart = x.chosen(1);
        int along = x.chosen(0);
        Check.due("chosen(2)", x.chosen(2), apart);
        Check.due("chosen(3)", x.chosen(3), along);
        int best = Math.min(apart, along);
        Check.due("choice(0)", x.choice(0), best);
        Check.due("choice(1)", x.choice(1), along <= apart ? 0 : 1);
    }

    private static void eight() {
        StringBuilder text = new StringBuilder("law left=right and 15<left+right;");
        for (int i = 0; i < 8; i++) {
            text.append("person ").append((char) ('a' + i)).append(" left at ").append(i).append(" weight 1 cost 1 chooser;");
        }
        EvenFerry x = Check.ferry(text.toString());
        Check.due("choice(0)", x.choice(0), 28);
        Check.due("choice(1)", x.choice(1), 15);
        // 70 even ones, and those where no single change makes them even: not 3 or 5 of 8.
        Check.due("rests()", x.rests(), 256 - 2 * 56);
        Check.due("rest(0)", x.rest(0), 0);
        Check.due("rest(143)", x.rest(143), 255);
        Check.due("rest(144)", x.rest(144), -1);
        Check.due("chosen(240)", x.chosen(240), 28);
        Check.due("chosen(255)", x.chosen(255), 8 * 1440 - 28);
        Check.due("chosen(256)", x.chosen(256), -1);
        x.use(-1);
        // One boat: all at once is still the best.
        Check.due("choice(0) by another law", x.choice(0), 28);
        Check.due("choice(1) by another law", x.choice(1), 15);
        EvenFerry y = Check.ferry("trip 0;" + text.substring(text.indexOf("person")));
        Check.due("choice(0) without a trip", y.choice(0), 4);
        Check.due("choice(1) without a trip", y.choice(1), 0b01010101);
    }
}
