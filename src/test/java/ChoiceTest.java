/** Promises 14 to 17: which sides to choose, and sides at rest. */
final class ChoiceTest {
    private static final int[] OTHERS = {Integer.MIN_VALUE, -1, Integer.MAX_VALUE};

    public static void main(String[] args) {
        bits();
        least();
        leastOfEqualOnes();
        atRest();
        choice();
        chosen();
        rests();
        rest();
        Check.end();
    }

    private static void costs(EvenFerry x, int... due) {
        for (int sides = 0; sides < due.length; sides++) {
            Check.due("chosen(" + sides + ")", x.chosen(sides), due[sides]);
        }
    }

    private static void resting(EvenFerry x, int... due) {
        Check.due("rests()", x.rests(), due.length);
        for (int i = 0; i < due.length; i++) {
            Check.due("rest(" + i + ")", x.rest(i), due[i]);
        }
        Check.due("rest(" + due.length + ")", x.rest(due.length), -1);
    }

    /** Two who are even if they choose otherwise; who comes first pays 1, who comes later pays 2. */
    private static EvenFerry two() {
        return Check.ferry("person a left at 0 weight 1 cost 1 chooser;person b left at 10 weight 1 cost 2 chooser;");
    }

    private static final int NIGHT = 1440 + 2 * 1430;
    // On the right a goes at once, and the boat is away when b could go.
    private static final String DEAR_FOR_THE_OTHER = "trip 99;law rload=1 or minute=50;"
            + People.person("a", "left", 10, 1, 1, "chooser") + People.person("b", "left", 12, 0, 90, "plain");

    private static String eight() {
        StringBuilder text = new StringBuilder();
        for (int i = 0; i < 8; i++) {
            text.append(People.one("p" + (char) ('a' + i), "left", i, "chooser"));
        }
        return text.toString();
    }

    private static void bits() {
        Check.says(15, "CHOICE: sides of all choosers, as bits (their numbers among choosers, 1: right)");
        // Weights tell them apart: the second and the fourth told are choosers 0 and 1.
        EvenFerry x = Check.ferry("law lload=22 and rload=15 and minute=50 or(lload=25 and rload=12 and minute=60)"
                + "or(lload=27 and minute=70)or(rload=17 and minute=80);" + People.person("a", "right", 0, 10, 1, "plain")
                + People.person("b", "right", 0, 2, 0, "chooser") + People.person("c", "left", 0, 20, 0, "cart")
                + People.person("d", "left", 0, 5, 0, "chooser"));
        // 0: both left; 1: b right; 2: d right; 3: both right. The others keep their sides.
        costs(x, 70, 60, 50, 80);
        Check.due("all(0), as told: b right, d left", x.all(0), 60);
        Check.due("person(1, 0)", x.person(1, 0), 1);
        Check.due("person(3, 0)", x.person(3, 0), 0);
    }

    private static void least() {
        Check.says(14, "BEST: by which the COST of all is least");
        EvenFerry x = Check.ferry(People.plain("a", "left", 0) + People.one("b", "left", 3, "chooser"));
        costs(x, 1440 + 1437, 3);
        Check.due("choice(0)", x.choice(0), 3);
        Check.due("choice(1)", x.choice(1), 1);
        // Least for all, though on the right it is less for the chooser.
        EvenFerry all = Check.ferry(DEAR_FOR_THE_OTHER);
        costs(all, 40 + 90 * 38, 0 + 90 * 1428);
        Check.due("choice(0)", all.choice(0), 40 + 90 * 38);
        Check.due("choice(1)", all.choice(1), 0);
        Check.due("choice(0) of eight", Check.ferry("law left=right and 15<left+right;" + eight()).choice(0), 28);
    }

    private static void leastOfEqualOnes() {
        Check.says(14, "of equal ones the least as bits");
        EvenFerry x = two();
        costs(x, NIGHT, 10, 10, NIGHT);
        Check.due("choice(1)", x.choice(1), 1);
        EvenFerry y = Check.ferry("law 1;" + People.one("a", "right", 0, "chooser") + People.one("b", "right", 0, "chooser"));
        costs(y, 0, 0, 0, 0);
        Check.due("choice(1)", y.choice(1), 0);
        // Whatever was the best by another law or on another river.
        EvenFerry again = Check.ferry("law rload=140;law 0;" + People.one("a", "left", 0, "chooser")
                + People.one("b", "left", 0, "chooser"));
        Check.due("choice(1): both on the right", again.choice(1), 3);
        again.use(1);
        Check.due("choice(1) by another law", again.choice(1), 0);
        EvenFerry z = Check.ferry("law left=right and 15<left+right;" + eight());
        Check.due("choice(1), four of eight", z.choice(1), 15);
    }

    private static void atRest() {
        Check.says(16, "At REST: no chooser alone would have less cost times WAIT on the other side.");
        resting(two(), 1, 2);
        // As much is not less: both sides are at rest.
        resting(Check.ferry("law 1;" + People.one("a", "left", 0, "chooser")), 0, 1);
        // Who pays nothing is at rest wherever.
        resting(Check.ferry(People.plain("a", "left", 0) + People.person("b", "left", 3, 1, 0, "chooser")), 0, 1);
        resting(Check.ferry(People.plain("a", "left", 0) + People.person("b", "left", 3, 1, 1, "chooser")), 1);
        // Its own cost, not that of all: the right is better for a, though it is dear for b.
        EvenFerry own = Check.ferry(DEAR_FOR_THE_OTHER);
        costs(own, 40 + 90 * 38, 0 + 90 * 1428);
        resting(own, 1);
        // Alone nobody gains from 0, only both together.
        EvenFerry both = Check.ferry("law right=6;" + People.plain("a", "right", 0) + People.one("b", "right", 1, "chooser")
                + People.one("c", "left", 2, "cart") + People.one("d", "left", 3, "chooser"));
        resting(both, 0, 3);
        // One wants to be along, the other apart.
        costs(neverAtRest(), 1 + 1440, 700 + 700, 700 + 700, 1 + 1440);
        resting(neverAtRest());
    }

    /** Along a goes at 1 and b stays for the night, apart both go at 700: a wants to be along, b apart. */
    private static EvenFerry neverAtRest() {
        return Check.ferry("room 1;law minute=1 and(lload=3 or rload=3)or(minute=700 and lload and rload);"
                + People.person("a", "left", 0, 2, 1, "chooser") + People.person("b", "left", 0, 1, 1, "chooser"));
    }

    private static void choice() {
        EvenFerry x = two();
        Check.says(14, "BEST CHOICE, what 0: COST, 1: as bits");
        Check.due("choice(0)", x.choice(0), 10);
        Check.due("choice(1)", x.choice(1), 1);
        EvenFerry none = Check.ferry("law 1;" + People.plain("a", "left", 3) + People.plain("b", "left", 4));
        Check.due("choice(0) without choosers", none.choice(0), 9);
        Check.due("choice(1) without choosers", none.choice(1), 0);
        EvenFerry last = Check.ferry("trip 0;law rload=560;" + eight());
        Check.due("choice(1): all on the right", last.choice(1), 255);
        Check.says(14, "1: as bits; NONE: another what.");
        Check.due("choice(2)", x.choice(2), -1);
        for (int other : OTHERS) {
            Check.due("choice(" + other + ")", x.choice(other), -1);
        }
    }

    private static void chosen() {
        Check.says(15, "COST of a CHOICE");
        costs(two(), NIGHT, 10, 10, NIGHT);
        EvenFerry x = Check.ferry("law left=right and 15<left+right;" + eight());
        Check.due("chosen(240)", x.chosen(240), 28);
        Check.due("chosen(255)", x.chosen(255), 8 * 1440 - 28);
        Check.says(15, "COST of a CHOICE; NONE: no such bits.");
        Check.due("chosen(256)", x.chosen(256), -1);
        Check.due("chosen(4)", two().chosen(4), -1);
        EvenFerry none = Check.ferry(People.plain("a", "left", 3));
        Check.due("chosen(0) without choosers", none.chosen(0), 1437);
        Check.due("chosen(1) without choosers", none.chosen(1), -1);
        for (int other : OTHERS) {
            Check.due("chosen(" + other + ")", x.chosen(other), -1);
            Check.due("chosen(" + other + ") without choosers", none.chosen(other), -1);
        }
    }

    private static void rests() {
        Check.says(16, "How many CHOICES are at REST.");
        Check.due("rests() without choosers", Check.ferry(People.plain("a", "left", 3)).rests(), 1);
        Check.due("rests() of two", two().rests(), 2);
        Check.due("rests(), all", Check.ferry("law 0;" + eight()).rests(), 256);
        // 70 even ones, and those that no single change makes even: not 3 or 5 of 8.
        Check.due("rests() of eight", Check.ferry("law left=right and 15<left+right;" + eight()).rests(), 256 - 2 * 56);
        Check.due("rests(), none", neverAtRest().rests(), 0);
    }

    private static void rest() {
        Check.says(17, "The i-th of these as bits, the least first");
        EvenFerry x = Check.ferry("law left=right and 15<left+right;" + eight());
        int i = 0;
        for (int sides = 0; sides < 256; sides++) {
            if (Integer.bitCount(sides) != 3 && Integer.bitCount(sides) != 5) {
                Check.due("rest(" + i + ")", x.rest(i), sides);
                i++;
            }
        }
        Check.says(17, "the least first; NONE: none such.");
        Check.due("rest(144)", x.rest(144), -1);
        Check.due("rest(255) of all", Check.ferry("law 0;" + eight()).rest(255), 255);
        Check.due("rest(256) of all", Check.ferry("law 0;" + eight()).rest(256), -1);
        Check.due("rest(0) of none", neverAtRest().rest(0), -1);
        Check.due("rest(0) of a new object", new EvenFerry().rest(0), 0);
        Check.due("rest(1) of a new object", new EvenFerry().rest(1), -1);
        for (int other : OTHERS) {
            Check.due("rest(" + other + ")", x.rest(other), -1);
        }
    }
}
