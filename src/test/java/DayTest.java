/** Promises 6 to 10 and 25: the day minute by minute, who waits how long, banks, and the best of the laws. */
final class DayTest {
    private static final int[] OTHERS = {Integer.MIN_VALUE, -1, Integer.MAX_VALUE};

    public static void main(String[] args) {
        counts();
        minutesOfADay();
        comeFirst();
        asLongAsTheLaw();
        somebodyWaits();
        boatIsThere();
        room();
        firstCome();
        over();
        tripLater();
        waitOfOne();
        night();
        cost();
        howOften();
        ringings();
        waits();
        all();
        banks();
        bestLaw();
        Check.end();
    }

    private static void ring(EvenFerry x, int i, int minute, int left, int right) {
        Check.due("ring(" + i + ", 0)", x.ring(i, 0), minute);
        Check.due("ring(" + i + ", 1)", x.ring(i, 1), left);
        Check.due("ring(" + i + ", 2)", x.ring(i, 2), right);
    }

    private static void rings(EvenFerry x, int... minutes) {
        Check.due("rings()", x.rings(), minutes.length);
        for (int i = 0; i < minutes.length; i++) {
            Check.due("ring(" + i + ", 0)", x.ring(i, 0), minutes[i]);
        }
    }

    private static void waits(EvenFerry x, int person, int wait, int by) {
        Check.due("waits(" + person + ", 0)", x.waits(person, 0), wait);
        Check.due("waits(" + person + ", 1)", x.waits(person, 1), by);
    }

    private static void bank(EvenFerry x, int side, int minute, int... due) {
        for (int what = 0; what < due.length; what++) {
            Check.due("bank(" + side + ", " + minute + ", " + what + ")", x.bank(side, minute, what), due[what]);
        }
    }

    private static void counts() {
        Check.says(10, "COUNT: of a dog 0, of a child 1, of a cart 4, of others 2.");
        String[] kinds = {"dog", "child", "cart", "plain", "turner", "chooser"};
        int[] counts = {0, 1, 4, 2, 2, 2};
        for (int kind = 0; kind < 6; kind++) {
            EvenFerry x = Check.ferry("law 0;" + People.one("a", "left", 3, kinds[kind]));
            bank(x, 0, 3, 1, counts[kind], 70);
        }
        // A cart is as many as one plain one and two children.
        EvenFerry even = Check.ferry(People.one("a", "left", 100, "cart") + People.plain("b", "right", 110)
                + People.one("c", "right", 120, "child") + People.one("d", "right", 131, "child"));
        rings(even, 131);
        ring(even, 0, 131, 1, 3);
    }

    private static void minutesOfADay() {
        Check.says(6, "A DAY has minutes 0 to 1439.");
        String one = People.plain("a", "left", 0);
        rings(Check.ferry("law minute=0;" + one), 0);
        rings(Check.ferry("law minute=1439;" + one), 1439);
        rings(Check.ferry("law 1438<minute;" + one), 1439);
        rings(Check.ferry("law 1439<minute;" + one));
        rings(Check.ferry("law 1;" + People.plain("a", "left", 1439)), 1439);
        // The boat is there again with the last minute, and behind it.
        String two = "room 1;law 1;" + People.plains(2, "left", 1430);
        rings(Check.ferry("trip 9;" + two), 1430, 1439);
        rings(Check.ferry("trip 10;" + two), 1430);
    }

    private static void comeFirst() {
        Check.says(6, "In a minute those come who come then.");
        // All of a minute are there ahead of its first ringing.
        EvenFerry x = Check.ferry("law 1;" + People.plain("a", "left", 7) + People.plain("b", "right", 7)
                + People.plain("c", "left", 7));
        rings(x, 7);
        ring(x, 0, 7, 2, 1);
        EvenFerry even = Check.ferry(People.plain("a", "left", 7) + People.plain("b", "right", 8));
        rings(even, 8);
        EvenFerry later = Check.ferry("law 1;" + People.plain("a", "left", 8) + People.plain("b", "right", 7));
        ring(later, 0, 7, 0, 1);
        ring(later, 1, 17, 1, 0);
    }

    private static void asLongAsTheLaw() {
        Check.says(6, "Then, as long as the LAW is not 0");
        String five = People.plains(5, "left", 6);
        rings(Check.ferry("law 0;" + five));
        rings(Check.ferry("law 0-1;" + five), 6);
        // It rings on in a minute while more than two are left, then no more.
        EvenFerry x = Check.ferry("room 1;trip 0;law 4<left;" + five);
        rings(x, 6, 6, 6);
        waits(x, 3, 1434, -1);
        // It is looked at in each minute, though nobody comes.
        rings(Check.ferry("room 1;trip 0;law minute=9 or minute=11;" + five), 9, 9, 9, 9, 9);
        rings(Check.ferry("room 1;trip 2;law minute=9 or minute=11 or minute=12;" + five), 9, 11);
    }

    private static void somebodyWaits() {
        Check.says(6, "somebody waits (a dog, too)");
        rings(Check.ferry("law 1;"));
        rings(Check.ferry("trip 0;law 1;" + People.plain("a", "left", 3)), 3);
        rings(Check.ferry("law 1;" + People.one("a", "left", 3, "dog")), 3);
        rings(Check.ferry("law 1;" + People.one("a", "right", 3, "dog")), 3);
        rings(Check.ferry("law left=right;" + People.one("a", "left", 3, "dog")), 3);
        rings(Check.ferry("law minute<9;" + People.plain("a", "right", 9)));
    }

    private static void boatIsThere() {
        Check.says(6, "and a boat is there, it RINGS");
        String four = People.plains(4, "left", 2);
        rings(Check.ferry("room 1;trip 5;law 1;" + four), 2, 7, 12, 17);
        rings(Check.ferry("room 1;trip 5;boats 2;law 1;" + four), 2, 2, 7, 7);
        // All boats are there when the day begins.
        rings(Check.ferry("room 1;trip 5;boats 2;law 1;" + People.plains(3, "left", 0)), 0, 0, 5);
        // The second boat is there though the first is not.
        rings(Check.ferry("trip 50;boats 2;law 1;" + People.plain("a", "left", 3) + People.plain("b", "left", 4)
                + People.plain("c", "left", 5)), 3, 4, 53);
        rings(Check.ferry("trip 50;law 1;" + People.plain("a", "left", 3) + People.plain("b", "left", 4)), 3, 53);
        // While no boat is there the law may hold in vain.
        rings(Check.ferry("trip 50;law minute=3 or minute=20;" + People.plain("a", "left", 3)
                + People.plain("b", "left", 4)), 3);
    }

    private static void room() {
        Check.says(7, "of each bank as many as there is room");
        String people = People.plains(3, "left", 4) + People.plains(5, "right", 4);
        EvenFerry one = Check.ferry("room 1;trip 1;law 1;" + people);
        Check.due("rings()", one.rings(), 5);
        int[] left = {1, 1, 1, 0, 0};
        for (int i = 0; i < 5; i++) {
            ring(one, i, 4 + i, left[i], 1);
        }
        EvenFerry four = Check.ferry("room 4;trip 1;law 1;" + people);
        ring(four, 0, 4, 3, 4);
        ring(four, 1, 5, 0, 1);
        EvenFerry five = Check.ferry("room 5;trip 1;law 1;" + people);
        rings(five, 4);
        ring(five, 0, 4, 3, 5);
        EvenFerry sixteen = Check.ferry("law 1;" + People.plains(16, "right", 4));
        ring(sixteen, 0, 4, 0, 16);
        // Room is for heads, whatever they count.
        EvenFerry carts = Check.ferry("room 2;law 1;" + People.plains(3, "left", 4).replace("plain", "cart"));
        ring(carts, 0, 4, 2, 0);
        EvenFerry dogs = Check.ferry("room 2;law 1;" + People.plains(3, "left", 4).replace("plain", "dog"));
        ring(dogs, 0, 4, 2, 0);
    }

    private static void firstCome() {
        Check.says(8, "first those who came earlier (of one minute the lesser number)");
        EvenFerry x = Check.ferry("room 1;trip 1;law 29<minute;" + People.plain("a", "left", 20) + People.plain("b", "left", 10)
                + People.plain("c", "left", 20) + People.plain("d", "left", 5) + People.plain("e", "left", 20)
                + People.plain("f", "right", 21) + People.plain("g", "right", 20));
        int[] by = {2, 1, 3, 0, 4, 1, 0};
        for (int person = 0; person < by.length; person++) {
            Check.due("waits(" + person + ", 1)", x.waits(person, 1), by[person]);
        }
    }

    private static void over() {
        Check.says(10, "are over; that boat is there again");
        EvenFerry x = Check.ferry("room 1;trip 0;law minute=9;" + People.plain("a", "left", 3) + People.plain("b", "right", 5));
        bank(x, 0, 8, 1, 2, 70);
        bank(x, 1, 8, 1, 2, 70);
        for (int side = 0; side < 2; side++) {
            bank(x, side, 9, 0, 0, 0);
            bank(x, side, 1439, 0, 0, 0);
        }
        rings(x, 9);
    }

    private static void tripLater() {
        Check.says(7, "that boat is there again trip minutes later");
        String three = People.plains(3, "left", 10);
        rings(Check.ferry("room 1;trip 0;law 1;" + three), 10, 10, 10);
        rings(Check.ferry("room 1;trip 1;law 1;" + three), 10, 11, 12);
        rings(Check.ferry("room 1;law 1;" + three), 10, 20, 30);
        rings(Check.ferry("room 1;trip 99;law 1;" + three), 10, 109, 208);
        // Each boat for itself: from 10 to 17 and from 12 to 19.
        rings(Check.ferry("trip 7;boats 2;law 1;" + People.plain("a", "left", 10) + People.plain("b", "left", 12)
                + People.plain("c", "left", 13) + People.plain("d", "left", 18)), 10, 12, 17, 19);
        // It comes back though nobody is there.
        rings(Check.ferry("trip 7;law 1;" + People.plain("a", "left", 10) + People.plain("b", "left", 100)), 10, 100);
    }

    private static void waitOfOne() {
        Check.says(8, "WAIT of a person: from when it came to when it goes");
        EvenFerry x = Check.ferry("law minute=50;" + People.plain("a", "left", 0) + People.plain("b", "left", 49)
                + People.plain("c", "right", 50));
        waits(x, 0, 50, 0);
        waits(x, 1, 1, 0);
        waits(x, 2, 0, 0);
        EvenFerry whole = Check.ferry("law minute=1439;" + People.plain("a", "left", 0));
        waits(whole, 0, 1439, 0);
    }

    private static void night() {
        Check.says(8, "of one who does not, NIGHT, to 1440");
        EvenFerry x = Check.ferry("law 0;" + People.plain("a", "left", 0) + People.plain("b", "left", 1439)
                + People.plain("c", "right", 1000));
        waits(x, 0, 1440, -1);
        waits(x, 1, 1, -1);
        waits(x, 2, 440, -1);
    }

    private static void cost() {
        Check.says(9, "COST: of all, cost times WAIT.");
        EvenFerry x = Check.ferry("law minute=100;" + People.person("a", "left", 90, 1, 99, "plain")
                + People.person("b", "right", 60, 1, 0, "dog") + People.person("c", "right", 100, 1, 50, "cart")
                + People.person("d", "right", 1000, 1, 3, "child"));
        Check.due("all(0)", x.all(0), 99 * 10 + 3 * 440);
        String most = "law 0;" + People.plains(16, "left", 0).replace("cost 1", "cost 99");
        Check.due("all(0), the most there can be", Check.ferry(most).all(0), 16 * 99 * 1440);
    }

    private static void howOften() {
        Check.says(6, "How often it RINGS in the day.");
        Check.due("rings() without people", new EvenFerry().rings(), 0);
        Check.due("rings() by a law that never holds", Check.ferry("law 0;" + People.plains(2, "left", 3)).rings(), 0);
        Check.due("rings(), one for each", Check.ferry("room 1;trip 0;law 1;" + People.plains(16, "left", 3)).rings(), 16);
    }

    private static void ringings() {
        Check.says(7, "Of the i-th, what 0: the minute, 1, 2: how many go from the left, the right");
        EvenFerry x = Check.ferry("law 1;" + People.plain("a", "left", 3) + People.plain("b", "right", 20)
                + People.plain("c", "right", 20));
        ring(x, 0, 3, 1, 0);
        ring(x, 1, 20, 0, 2);
        String sixteen = "room 1;trip 1;law 1;" + People.plains(16, "left", 3);
        ring(Check.ferry(sixteen), 15, 18, 1, 0);
        Check.says(7, "the right; NONE: others.");
        for (int what = 0; what < 3; what++) {
            Check.due("ring(2, " + what + ")", x.ring(2, what), -1);
            for (int other : OTHERS) {
                Check.due("ring(" + other + ", " + what + ")", x.ring(other, what), -1);
                Check.due("ring(0, " + other + ")", x.ring(0, other), -1);
            }
            Check.due("ring(0, " + what + ") without ringings", new EvenFerry().ring(0, what), -1);
        }
        Check.due("ring(0, 3)", x.ring(0, 3), -1);
        Check.due("ring(16, 0)", Check.ferry(sixteen).ring(16, 0), -1);
    }

    private static void waits() {
        Check.says(8, "Of a person, what 0: WAIT, 1: which ringing it goes by (NONE: NIGHT)");
        EvenFerry x = Check.ferry("law minute<30;" + People.plain("a", "left", 3) + People.plain("b", "right", 5)
                + People.plain("c", "right", 1430));
        waits(x, 0, 0, 0);
        waits(x, 1, 8, 1);
        waits(x, 2, 10, -1);
        Check.says(8, "(NONE: NIGHT); NONE: others.");
        for (int what = 0; what < 2; what++) {
            Check.due("waits(3, " + what + ")", x.waits(3, what), -1);
            for (int other : OTHERS) {
                Check.due("waits(" + other + ", " + what + ")", x.waits(other, what), -1);
                Check.due("waits(0, " + other + ")", x.waits(0, other), -1);
            }
        }
        Check.due("waits(0, 2)", x.waits(0, 2), -1);
        Check.due("waits(0, 0) without people", new EvenFerry().waits(0, 0), -1);
    }

    private static void all() {
        EvenFerry x = Check.ferry("law minute=7 or minute=20;" + People.plain("a", "left", 3) + People.plain("b", "right", 15)
                + People.plain("c", "right", 1430) + People.plain("d", "left", 1435));
        Check.says(9, "In all, what 0: COST");
        Check.due("all(0)", x.all(0), 4 + 5 + 10 + 5);
        Check.says(9, "1: the longest WAIT (0 without people)");
        Check.due("all(1)", x.all(1), 10);
        Check.due("all(1) without people", Check.ferry("law 1;").all(1), 0);
        Check.due("all(1) if nobody waits", Check.ferry("law 1;" + People.plain("a", "left", 3)).all(1), 0);
        Check.due("all(1), the longest there is", Check.ferry(People.plain("a", "left", 0)).all(1), 1440);
        Check.says(9, "2: who spends the NIGHT, as bits");
        Check.due("all(2)", x.all(2), 4 + 8);
        Check.due("all(2) of nobody", Check.ferry("law 1;" + People.plains(16, "left", 3)).all(2), 0);
        Check.due("all(2) of all", Check.ferry("law 0;" + People.plains(16, "left", 3)).all(2), 65535);
        Check.due("all(2) of the last one", Check.ferry("room 15;trip 99;law minute=3;" + People.plains(16, "left", 3)).all(2),
                32768);
        Check.says(9, "as bits; NONE: another what.");
        Check.due("all(3)", x.all(3), -1);
        for (int other : OTHERS) {
            Check.due("all(" + other + ")", x.all(other), -1);
        }
    }

    private static void banks() {
        EvenFerry x = Check.ferry("room 1;law minute=50;" + People.person("a", "left", 10, 3, 1, "cart")
                + People.person("b", "left", 20, 4, 1, "dog") + People.person("c", "right", 50, 5, 1, "child")
                + People.person("d", "left", 50, 6, 1, "turner") + People.person("e", "right", 1439, 999, 1, "plain"));
        Check.says(10, "Of a bank (0 left, 1 right) behind a minute");
        bank(x, 0, 9, 0, 0, 0);
        bank(x, 0, 10, 1, 4, 3);
        bank(x, 1, 10, 0, 0, 0);
        bank(x, 0, 49, 2, 4, 7);
        // Behind its ringing, in which a and c go.
        bank(x, 0, 50, 2, 2, 10);
        bank(x, 1, 50, 0, 0, 0);
        bank(x, 0, 1439, 2, 2, 10);
        bank(x, 1, 1438, 0, 0, 0);
        bank(x, 1, 1439, 1, 2, 999);
        bank(Check.ferry("law 0;" + People.plain("a", "right", 0)), 1, 0, 1, 2, 70);
        Check.says(10, "what 0: how many wait, 1: COUNT, 2: their weights");
        bank(Check.ferry("law 0;" + People.plains(16, "left", 7).replace("plain", "cart")), 0, 7, 16, 64, 1120);
        bank(x, 0, 30, 2, 4, 7);
        Check.says(10, "2: their weights; NONE: others.");
        int[][] wrong = {{-1, 50, 0}, {2, 50, 0}, {0, -1, 0}, {0, 1440, 0}, {1, 1440, 1}, {0, 50, 3}, {0, 50, -1}};
        for (int[] w : wrong) {
            Check.due("bank(" + w[0] + ", " + w[1] + ", " + w[2] + ")", x.bank(w[0], w[1], w[2]), -1);
        }
        for (int other : OTHERS) {
            Check.due("bank(" + other + ", 50, 0)", x.bank(other, 50, 0), -1);
            Check.due("bank(0, " + other + ", 0)", x.bank(0, other, 0), -1);
            Check.due("bank(0, 50, " + other + ")", x.bank(0, 50, other), -1);
        }
    }

    private static void bestLaw() {
        String people = People.plain("a", "left", 0) + People.plain("b", "left", 10) + People.plain("c", "right", 30);
        Check.says(25, "BEST LAW: that by which the COST of the told people is least, of equal ones the first.");
        EvenFerry x = Check.ferry("trip 50;law left=4;law 1;law 3<left and 0<right;law 3<left;" + people);
        // 10 + 1410; 0 + 40 + 20; 30 + 20; as the first.
        int[] costs = {1420, 60, 50, 1420};
        for (int law = 0; law < 4; law++) {
            x.use(law);
            Check.due("all(0) by law " + law, x.all(0), costs[law]);
            Check.due("best() whatever goes", x.best(), 2);
            Check.due("count(2) stays", x.count(2), law);
        }
        Check.due("best() of equal ones", Check.ferry("law 0;law 0;law 1;law 2;" + people).best(), 2);
        Check.due("best(), the last", Check.ferry("law 0;law 0;law 0;law 2;" + people).best(), 3);
        Check.due("best(), all equal", Check.ferry("law 0;law 0;law 0;law 0;" + people).best(), 0);
        Check.due("best() without people", Check.ferry("law 0;law 1;").best(), 0);
        Check.due("best() of people who cost nothing",
                Check.ferry("law 0;law 1;" + people.replace("cost 1", "cost 0")).best(), 0);
        Check.says(25, "BEST LAW; NONE: none is told.");
        Check.due("best() without laws", Check.ferry(people).best(), -1);
        Check.due("best() of a new object", new EvenFerry().best(), -1);
        // The law without a number is none of them, even if it were better.
        EvenFerry even = Check.ferry("law 0;" + People.plain("a", "left", 0) + People.plain("b", "right", 0));
        Check.due("best()", even.best(), 0);
        even.use(-1);
        Check.due("best()", even.best(), 0);
    }
}
