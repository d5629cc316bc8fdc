/** Promises 6 to 10 and 25: the day by its laws, who waits how long, and the best of the laws. */
final class DayTest {
    public static void main(String[] args) {
        evenLaw();
        room();
        boats();
        dogs();
        facts();
        reckoning();
        wrongAsking();
        banks();
        bestLaw();
        Check.end();
    }

    private static String person(String name, String side, int at, int weight, int cost, String kind) {
        return "person " + name + " " + side + " at " + at + " weight " + weight + " cost " + cost + " " + kind + ";";
    }

    private static String plain(String name, String side, int at) {
        return person(name, side, at, 70, 1, "plain");
    }

    private static void ring(EvenFerry x, int i, int minute, int left, int right) {
        Check.due("ring(" + i + ", 0)", x.ring(i, 0), minute);
        Check.due("ring(" + i + ", 1)", x.ring(i, 1), left);
        Check.due("ring(" + i + ", 2)", x.ring(i, 2), right);
    }

    private static void waits(EvenFerry x, int person, int wait, int by) {
        Check.due("waits(" + person + ", 0)", x.waits(person, 0), wait);
        Check.due("waits(" + person + ", 1)", x.waits(person, 1), by);
    }

    /** A cart counts as much as two plain ones, or four children. */
    private static void evenLaw() {
        EvenFerry x = Check.ferry(person("a", "left", 100, 1, 3, "cart") + plain("b", "right", 110)
                + person("c", "right", 120, 1, 0, "child") + person("d", "right", 131, 1, 2, "child")
                + plain("e", "left", 1439));
        Check.due("rings()", x.rings(), 1);
        ring(x, 0, 131, 1, 3);
        waits(x, 0, 31, 0);
        waits(x, 1, 21, 0);
        waits(x, 2, 11, 0);
        waits(x, 3, 0, 0);
        waits(x, 4, 1, -1);
        Check.due("all(0)", x.all(0), 31 * 3 + 21 + 0 + 0 + 1);
        Check.due("all(1)", x.all(1), 31);
        Check.due("all(2)", x.all(2), 16);
    }

    /** Who came earlier goes first, of one minute the lesser number, whatever the order told. */
    private static void room() {
        EvenFerry x = Check.ferry("room 2;trip 3;law 30<minute;" + plain("a", "left", 20) + plain("b", "left", 10)
                + plain("c", "left", 20) + plain("d", "left", 5) + plain("e", "left", 20) + plain("f", "right", 0));
        Check.due("rings()", x.rings(), 3);
        ring(x, 0, 31, 2, 1);
        ring(x, 1, 34, 2, 0);
        ring(x, 2, 37, 1, 0);
        waits(x, 3, 26, 0);
        waits(x, 1, 21, 0);
        waits(x, 0, 14, 1);
        waits(x, 2, 14, 1);
        waits(x, 4, 17, 2);
        waits(x, 5, 31, 0);
        Check.due("all(1)", x.all(1), 31);
    }

    /** Each boat is there again trip minutes later; without a trip it rings on in one minute. */
    private static void boats() {
        String people = plain("a", "left", 0) + plain("b", "left", 0) + plain("c", "left", 0) + plain("d", "left", 0)
                + plain("e", "left", 0);
        EvenFerry x = Check.ferry("room 1;trip 4;boats 2;law 1;" + people);
        Check.due("rings()", x.rings(), 5);
        int[] minutes = {0, 0, 4, 4, 8};
        for (int i = 0; i < 5; i++) {
            ring(x, i, minutes[i], 1, 0);
            waits(x, i, minutes[i], i);
        }
        EvenFerry y = Check.ferry("room 1;trip 0;law 1;" + people);
        Check.due("rings() without a trip", y.rings(), 5);
        Check.due("all(0) without a trip", y.all(0), 0);
        EvenFerry z = Check.ferry("room 1;trip 99;law 1;" + people);
        ring(z, 4, 396, 1, 0);
    }

    private static void dogs() {
        String dog = person("a", "left", 7, 9, 1, "dog");
        EvenFerry even = Check.ferry(dog);
        Check.due("rings() for a dog, evenly", even.rings(), 0);
        EvenFerry as = Check.ferry("law left=right;" + dog);
        Check.due("rings() for a dog as many", as.rings(), 1);
        ring(as, 0, 7, 1, 0);
        Check.due("rings() without anybody", Check.ferry("law 1;").rings(), 0);
    }

    private static int firstRing(String law) {
        EvenFerry x = Check.ferry("law " + law + ";" + person("a", "left", 10, 30, 1, "plain")
                + person("b", "right", 20, 41, 1, "cart") + person("c", "left", 30, 5, 1, "child"));
        return x.ring(0, 0);
    }

    private static void facts() {
        Check.due("left", firstRing("left=3"), 30);
        Check.due("right", firstRing("right=4"), 20);
        Check.due("lload", firstRing("lload=35"), 30);
        Check.due("rload", firstRing("rload=41"), 20);
        Check.due("wait", firstRing("wait=15"), 25);
        Check.due("minute", firstRing("minute=17"), 17);
        Check.due("minute, nobody there", firstRing("minute<5"), -1);
        Check.due("and, or from the left", firstRing("1 or 0 and 0"), -1);
        Check.due("or", firstRing("0 and 0 or minute=44"), 44);
        Check.due("not binds its part", firstRing("not 1+1"), 10);
        Check.due("not of 0 and of more", firstRing("(not 0)+(not 7)=1"), 10);
        Check.due("product ahead of sum", firstRing("2+3*4=14 and 20-3-2=15"), 10);
        Check.due("a sum below 0", firstRing("3-5<0"), 10);
        Check.due("a comparison counts", firstRing("(1<2)+(2=2)+(3<2)=2"), 10);
        Check.due("and, or count 1", firstRing("(7 and 9)+(0 or 5)=2"), 10);
        Check.due("what is not 0 is so", firstRing("0-1"), 10);
        Check.due("ints wrap", firstRing("9999*9999*9999<0-1 and 65*(1024*8)*(1024*8)=65*(1024*8)*(1024*8)"), 10);
        Check.due("2 to the 32 is 0", firstRing("4096*1024*1024"), -1);
        Check.due("a long day's wait", firstRing("wait=1429"), 1439);
    }

    private static void reckoning() {
        EvenFerry x = Check.ferry("law wait=1000;" + person("a", "left", 5, 0, 99, "plain")
                + person("b", "right", 1100, 0, 2, "plain"));
        Check.due("rings()", x.rings(), 1);
        ring(x, 0, 1005, 1, 0);
        waits(x, 1, 340, -1);
        Check.due("all(0)", x.all(0), 99 * 1000 + 2 * 340);
        Check.due("all(1)", x.all(1), 1000);
        Check.due("all(2)", x.all(2), 2);
    }

    private static void wrongAsking() {
        EvenFerry x = Check.ferry("law 1;" + plain("a", "left", 3));
        Check.due("ring(-1, 0)", x.ring(-1, 0), -1);
        Check.due("ring(1, 0)", x.ring(1, 0), -1);
        Check.due("ring(0, 3)", x.ring(0, 3), -1);
        Check.due("ring(0, -1)", x.ring(0, -1), -1);
        Check.due("waits(1, 0)", x.waits(1, 0), -1);
        Check.due("waits(-1, 0)", x.waits(-1, 0), -1);
        Check.due("waits(0, 2)", x.waits(0, 2), -1);
        Check.due("waits(0, -1)", x.waits(0, -1), -1);
        Check.due("all(3)", x.all(3), -1);
        Check.due("all(-1)", x.all(-1), -1);
        int[][] wrong = {{-1, 3, 0}, {2, 3, 0}, {0, -1, 0}, {0, 1440, 0}, {0, 3, 3}, {0, 3, -1}};
        for (int[] w : wrong) {
            Check.due("bank(" + w[0] + ", " + w[1] + ", " + w[2] + ")", x.bank(w[0], w[1], w[2]), -1);
        }
    }

    private static void bank(EvenFerry x, int side, int minute, int... due) {
        for (int what = 0; what < 3; what++) {
            Check.due("bank(" + side + ", " + minute + ", " + what + ")", x.bank(side, minute, what), due[what]);
        }
    }

    private static void banks() {
        EvenFerry x = Check.ferry("room 1;law minute=50;" + person("a", "left", 10, 3, 1, "cart")
                + person("b", "left", 20, 4, 1, "dog") + person("c", "right", 50, 5, 1, "child")
                + person("d", "left", 50, 6, 1, "turner") + person("e", "right", 1439, 7, 1, "plain"));
        bank(x, 0, 0, 0, 0, 0);
        bank(x, 0, 9, 0, 0, 0);
        bank(x, 0, 10, 1, 4, 3);
        bank(x, 0, 49, 2, 4, 7);
        bank(x, 1, 49, 0, 0, 0);
        bank(x, 0, 50, 2, 2, 10);
        bank(x, 1, 50, 0, 0, 0);
        bank(x, 0, 1439, 2, 2, 10);
        bank(x, 1, 1438, 0, 0, 0);
        bank(x, 1, 1439, 1, 2, 7);
    }

    private static void bestLaw() {
        String people = plain("a", "left", 0) + plain("b", "left", 10) + plain("c", "right", 30);
        EvenFerry x = Check.ferry("trip 50;law left=4;law 1;law 3<left and 0<right;law 3<left;" + people);
        // Costs: 10 + 1410; 0 + 40 + 20; 30 + 20; 10 + 1410 as the first.
        int[] costs = {1420, 60, 50, 1420};
        for (int law = 0; law < 4; law++) {
            x.use(law);
            Check.due("all(0) by law " + law, x.all(0), costs[law]);
        }
        Check.due("best()", x.best(), 2);
        x.use(-1);
        Check.due("best() whatever goes", x.best(), 2);
        Check.due("best() of equal ones", Check.ferry("law 0;law 0;law 1;law 2;" + people).best(), 2);
        Check.due("best() without people", Check.ferry("law 0;law 1;").best(), 0);
        Check.due("best() without laws", Check.ferry(people).best(), -1);
    }
}
