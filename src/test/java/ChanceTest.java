import java.math.BigInteger;
import java.util.Arrays;

/** Promises 21 to 24: chances to be level, their mean, ways to have come, and days drawn. */
final class ChanceTest {
    private static final int[] OTHERS = {Integer.MIN_VALUE, -1, Integer.MAX_VALUE};

    public static void main(String[] args) {
        byTheChanceOfSide();
        firstTime();
        likely();
        mean();
        came();
        draws();
        whoComes();
        onTheLeft();
        ofAllDays();
        beginsWithNobody();
        threeHundred();
        seedsAndDays();
        otherLots();
        Check.end();
    }

    /** Goes through all orders by their difference: how many, each so often as its sides weigh, first level at each n. */
    private static BigInteger[] firstLevels(int first, int second) {
        BigInteger[] level = new BigInteger[17];
        BigInteger[] ways = new BigInteger[41];
        Arrays.fill(ways, BigInteger.ZERO);
        ways[20] = BigInteger.ONE;
        for (int n = 1; n <= 16; n++) {
            BigInteger[] next = new BigInteger[41];
            Arrays.fill(next, BigInteger.ZERO);
            for (int d = 1; d < 40; d++) {
                next[d + 1] = next[d + 1].add(ways[d].multiply(BigInteger.valueOf(first)));
                next[d - 1] = next[d - 1].add(ways[d].multiply(BigInteger.valueOf(second - first)));
            }
            level[n] = next[20];
            next[20] = BigInteger.ZERO;
            ways = next;
        }
        return level;
    }

    /** All n of one river: the chance by each of them and the mean, each in lowest terms. */
    private static void chances(int first, int second) {
        EvenFerry x = Check.ferry("side " + first + " of " + second + ";");
        BigInteger[] level = firstLevels(first, second);
        BigInteger base = BigInteger.valueOf(second);
        BigInteger sum = BigInteger.ZERO;
        BigInteger weighted = BigInteger.ZERO;
        for (int n = 1; n <= 16; n++) {
            sum = sum.multiply(base).add(level[n]);
            weighted = weighted.multiply(base).add(level[n].multiply(BigInteger.valueOf(n)));
            String of = " of side " + first + " of " + second;
            ratio("likely(" + n, of, x.likely(n, 0), x.likely(n, 1), sum, base.pow(n));
            if (n >= 2) {
                ratio("mean(" + n, of, x.mean(n, 0), x.mean(n, 1), weighted, sum);
            }
        }
    }

    private static void ratio(String call, String of, long above, long below, BigInteger dueAbove, BigInteger dueBelow) {
        BigInteger common = dueAbove.gcd(dueBelow);
        Check.due(call + ", 0)" + of, above, dueAbove.divide(common).longValueExact());
        Check.due(call + ", 1)" + of, below, dueBelow.divide(common).longValueExact());
    }

    private static void byTheChanceOfSide() {
        Check.says(21, "Those who come are on the left by the chance of side, each for itself.");
        for (int second = 2; second <= 9; second++) {
            for (int first = 1; first < second; first++) {
                chances(first, second);
            }
        }
    }

    private static void firstTime() {
        Check.says(21, "LEVEL at the nth: for the first time as many (n above 0) have come on either side.");
        EvenFerry x = new EvenFerry();
        // Not at 0, and a second time does not count: by 4 it is 1/2 and 2 of 16 orders.
        Check.due("likely(1, 0)", x.likely(1, 0), 0);
        Check.due("likely(1, 1)", x.likely(1, 1), 1);
        Check.due("likely(2, 0)", x.likely(2, 0), 1);
        Check.due("likely(2, 1)", x.likely(2, 1), 2);
        Check.due("likely(4, 0)", x.likely(4, 0), 5);
        Check.due("likely(4, 1)", x.likely(4, 1), 8);
    }

    private static void likely() {
        Check.says(21, "LIKELY: the chance that it was LEVEL by the nth (n 1 to 16).");
        EvenFerry x = Check.ferry("side 8 of 9;");
        Check.due("likely(1, 0)", x.likely(1, 0), 0);
        Check.due("likely(1, 1)", x.likely(1, 1), 1);
        Check.due("likely(0, 0)", x.likely(0, 0), -1);
        Check.due("likely(16, 0) is there", x.likely(16, 0) > 0, true);
        Check.due("likely(17, 0)", x.likely(17, 0), -1);
        // By an odd one it is as by the one ahead.
        for (int n = 3; n <= 15; n += 2) {
            Check.due("likely(" + n + ", 0)", x.likely(n, 0), x.likely(n - 1, 0));
            Check.due("likely(" + n + ", 1)", x.likely(n, 1), x.likely(n - 1, 1));
        }
        Check.says(21, "LIKELY, what 0: above, 1: below, in lowest terms");
        EvenFerry even = Check.ferry("side 2 of 4;");
        Check.due("likely(2, 0)", even.likely(2, 0), 1);
        Check.due("likely(2, 1)", even.likely(2, 1), 2);
        EvenFerry third = Check.ferry("side 3 of 9;");
        Check.due("likely(2, 0)", third.likely(2, 0), 4);
        Check.due("likely(2, 1)", third.likely(2, 1), 9);
        Check.says(21, "in lowest terms; NONE: others.");
        for (int other : OTHERS) {
            Check.due("likely(" + other + ", 0)", x.likely(other, 0), -1);
            Check.due("likely(2, " + other + ")", x.likely(2, other), -1);
        }
        Check.due("likely(0, 1)", x.likely(0, 1), -1);
        Check.due("likely(17, 1)", x.likely(17, 1), -1);
        Check.due("likely(2, 2)", x.likely(2, 2), -1);
    }

    private static void mean() {
        Check.says(22, "MEAN: of those by which it was, the mean of n.");
        EvenFerry x = new EvenFerry();
        // By 4: half at 2, an eighth at 4.
        Check.due("mean(4, 0)", x.mean(4, 0), 12);
        Check.due("mean(4, 1)", x.mean(4, 1), 5);
        chances(1, 9);
        chances(2, 3);
        Check.says(22, "MEAN of those LEVEL by the nth (n 2 to 16), what 0: above, 1: below, in lowest terms");
        Check.due("mean(1, 0)", x.mean(1, 0), -1);
        Check.due("mean(1, 1)", x.mean(1, 1), -1);
        Check.due("mean(2, 0)", x.mean(2, 0), 2);
        Check.due("mean(2, 1)", x.mean(2, 1), 1);
        Check.due("mean(3, 0)", x.mean(3, 0), 2);
        Check.due("mean(3, 1)", x.mean(3, 1), 1);
        EvenFerry nine = Check.ferry("side 3 of 7;");
        Check.due("mean(16, 0)", nine.mean(16, 0), 4066396911506L);
        Check.due("mean(16, 1)", nine.mean(16, 1), 1069411153597L);
        Check.due("mean(17, 0)", nine.mean(17, 0), -1);
        Check.says(22, "in lowest terms; NONE: others.");
        for (int other : OTHERS) {
            Check.due("mean(" + other + ", 0)", x.mean(other, 0), -1);
            Check.due("mean(2, " + other + ")", x.mean(2, other), -1);
        }
        Check.due("mean(0, 0)", x.mean(0, 0), -1);
        Check.due("mean(17, 1)", x.mean(17, 1), -1);
        Check.due("mean(2, 2)", x.mean(2, 2), -1);
    }

    private static int firstLevel(int sides, int number) {
        int more = 0;
        for (int n = 1; n <= number; n++) {
            more += (sides >> n - 1 & 1) == 0 ? 1 : -1;
            if (more == 0) {
                return n;
            }
        }
        return 0;
    }

    private static void came() {
        Check.says(23, "CAME: in how many orders of sides 2 k (k 1 to 15) can have come so that it is LEVEL at the last one.");
        EvenFerry x = Check.ferry("side 2 of 7;");
        for (int k = 1; k <= 7; k++) {
            int found = 0;
            for (int sides = 0; sides < 1 << 2 * k; sides++) {
                found += firstLevel(sides, 2 * k) == 2 * k ? 1 : 0;
            }
            Check.due("came(" + k + ")", x.came(k), found);
        }
        long[] rest = {858, 2860, 9724, 33592, 117572, 416024, 1485800, 5348880};
        for (int k = 8; k <= 15; k++) {
            Check.due("came(" + k + ")", x.came(k), rest[k - 8]);
        }
        Check.says(23, "CAME; NONE: others.");
        Check.due("came(0)", x.came(0), -1);
        Check.due("came(16)", x.came(16), -1);
        for (int other : OTHERS) {
            Check.due("came(" + other + ")", x.came(other), -1);
        }
    }

    /** Days drawn as the document tells it, of which only comings are asked. */
    private static final class Drawn {
        private long g;
        private int lefts;
        private int all;
        private int toMidnight;
        private int longest;

        Drawn(int seed, int days, int come, int first, int second) {
            g = seed;
            for (int day = 0; day < days; day++) {
                int came = 0;
                for (int minute = 0; minute < 1440 && came < 300; minute++) {
                    if (draw(1000) < come) {
                        lefts += draw(second) < first ? 1 : 0;
                        toMidnight += 1440 - minute;
                        longest = Math.max(longest, 1440 - minute);
                        came++;
                    }
                }
                all += came;
            }
        }

        private long draw(int below) {
            g = (g * 1103515245L + 12345L) % 2147483648L;
            return g / 65536 % below;
        }
    }

    private static void lots(EvenFerry x, int seed, int days, int... due) {
        for (int what = 0; what < due.length; what++) {
            Check.due("lots(" + seed + ", " + days + ", " + what + ")", x.lots(seed, days, what), due[what]);
        }
    }

    private static void draws() {
        Check.says(24, "A DRAW below m: g becomes (g * 1103515245 + 12345) modulo 2147483648 (g is the SEED at first); "
                + "it is g / 65536, cut, modulo m.");
        // 1103527590 / 65536 is 16838: the first draw below 1,000 is 838 by SEED 1, and 0 by SEED 0.
        EvenFerry late = Check.ferry("come 838;law minute=0;");
        Check.due("lots(1, 1, 0): nobody comes in the first minute", late.lots(1, 1, 0), 0);
        EvenFerry soon = Check.ferry("come 839;law minute=0;");
        Check.due("lots(1, 1, 0): one comes in the first minute", soon.lots(1, 1, 0), 1);
        Check.due("lots(0, 1, 0): one comes in the first minute", Check.ferry("come 1;law minute=0;").lots(0, 1, 0), 1);
        EvenFerry x = Check.ferry("come 137;side 2 of 5;law 0;");
        int[] seeds = {0, 1, 9999, 4321};
        for (int seed : seeds) {
            Drawn drawn = new Drawn(seed, 3, 137, 2, 5);
            lots(x, seed, 3, 0, drawn.all, drawn.toMidnight, drawn.all, drawn.longest);
        }
    }

    private static void whoComes() {
        Check.says(24, "in each minute of which a plain one of weight 70 comes if a DRAW below 1,000 is below come");
        lots(Check.ferry("come 0;law 1;"), 5, 50, 0, 0, 0, 0, 0);
        for (int come = 1; come <= 1000; come += 111) {
            Drawn drawn = new Drawn(77, 2, come, 1, 2);
            lots(Check.ferry("come " + come + ";law 0;"), 77, 2, 0, drawn.all, drawn.toMidnight, drawn.all, drawn.longest);
        }
        // A plain one counts 2 and weighs 70.
        String rest = "come 1000;trip 0;";
        Check.due("lots(1, 1, 0) by count", Check.ferry(rest + "law left+right=2;").lots(1, 1, 0), 300);
        Check.due("lots(1, 1, 0) by weight", Check.ferry(rest + "law lload+rload=70;").lots(1, 1, 0), 300);
        // The told people do not come.
        Check.due("lots(1, 1, 1)", Check.ferry("come 0;law 1;" + People.plains(3, "left", 5)).lots(1, 1, 1), 0);
    }

    private static void onTheLeft() {
        Check.says(24, "on the left if a DRAW below the second number of side is below the first one");
        int[][] sides = {{1, 2}, {1, 9}, {8, 9}, {2, 5}, {4, 7}};
        for (int[] side : sides) {
            Drawn drawn = new Drawn(123, 4, 400, side[0], side[1]);
            EvenFerry x = Check.ferry("come 400;trip 0;law 0<left;law 0<right;side " + side[0] + " of " + side[1] + ";");
            Check.due("lots(123, 4, 0), a ringing for each on the left", x.lots(123, 4, 0), drawn.lefts);
            x.use(1);
            Check.due("lots(123, 4, 0), a ringing for each on the right", x.lots(123, 4, 0), drawn.all - drawn.lefts);
        }
    }

    private static void ofAllDays() {
        Check.says(24, "Of all days: ringings, those who came, minutes waited, those who spend the NIGHT, the longest WAIT.");
        Drawn drawn = new Drawn(9, 5, 30, 1, 2);
        EvenFerry asked = Check.ferry("come 30;law 0;");
        lots(asked, 9, 5, 0, drawn.all, drawn.toMidnight, drawn.all, drawn.longest);
        // Of these days alone, not of those asked ahead of them.
        for (int seed = 0; seed < 9; seed++) {
            Drawn one = new Drawn(seed, 1, 30, 1, 2);
            lots(asked, seed, 1, 0, one.all, one.toMidnight, one.all, one.longest);
        }
        lots(Check.ferry("come 30;trip 0;law 1;"), 9, 5, drawn.all, drawn.all, 0, 0, 0);
        lots(Check.ferry("come 1000;trip 0;law 1;side 1 of 3;"), 7, 2, 600, 600, 0, 0, 0);
        // All come by 299; at 1000 up to 40 of each bank go, the others stay.
        int waited = 0;
        for (int at = 0; at < 300; at++) {
            waited += 1440 - at;
        }
        EvenFerry x = Check.ferry("come 1000;law minute=1000;");
        lots(x, 3, 1, 1, 300, waited - 80 * 440, 300 - 80);
        Check.due("lots(3, 2, 0)", x.lots(3, 2, 0), 2);
        Check.due("lots(3, 2, 2)", x.lots(3, 2, 2), 2 * (waited - 80 * 440));
        Check.due("lots(3, 2, 3)", x.lots(3, 2, 3), 2 * (300 - 80));
        EvenFerry never = Check.ferry("come 1000;law 0;");
        lots(never, 3, 50, 0, 15000, 50 * waited, 15000, 1440);
    }

    private static void beginsWithNobody() {
        Check.says(24, "(Each day begins with nobody;");
        // 300 count 600, by 299 alone: those of the day before would make it earlier.
        EvenFerry x = Check.ferry("come 1000;room 1;trip 99;law left+right=600;");
        Check.due("lots(6, 9, 0)", x.lots(6, 9, 0), 9);
        Check.due("lots(6, 9, 3)", x.lots(6, 9, 3), 9 * 298);
        EvenFerry few = Check.ferry("come 9;law 0;");
        Check.due("lots(6, 9, 1)", few.lots(6, 9, 1), new Drawn(6, 9, 9, 1, 2).all);
        Check.due("lots(6, 9, 3)", few.lots(6, 9, 3), new Drawn(6, 9, 9, 1, 2).all);
        EvenFerry first = Check.ferry("come 1000;law minute=0 and 2<left+right;");
        Check.due("lots(6, 50, 0): more than one in the first minute", first.lots(6, 50, 0), 0);
        // A boat is there when a day begins, though one went late in the day ahead.
        EvenFerry boat = Check.ferry("come 1000;trip 99;law minute=1439 or minute=0;");
        Check.due("lots(6, 9, 0)", boat.lots(6, 9, 0), 18);
    }

    private static void threeHundred() {
        Check.says(24, "300 come at most in a day, then nobody, without a DRAW.)");
        int[] comes = {150, 208, 250, 500, 999, 1000};
        for (int come : comes) {
            Drawn drawn = new Drawn(31, 6, come, 3, 7);
            EvenFerry x = Check.ferry("side 3 of 7;trip 0;law 0;law 0<left;come " + come + ";");
            lots(x, 31, 6, 0, drawn.all, drawn.toMidnight, drawn.all, drawn.longest);
            x.use(1);
            Check.due("lots(31, 6, 0)", x.lots(31, 6, 0), drawn.lefts);
        }
        Check.due("lots(31, 1, 1)", Check.ferry("come 999;").lots(31, 1, 1), 300);
    }

    private static void seedsAndDays() {
        Check.says(24, "LOTS: days (1 to 50)");
        EvenFerry x = Check.ferry("come 130;law 0;");
        Check.due("lots(2, 0, 1)", x.lots(2, 0, 1), -1);
        Check.due("lots(2, 1, 1)", x.lots(2, 1, 1), new Drawn(2, 1, 130, 1, 2).all);
        Check.due("lots(2, 50, 1)", x.lots(2, 50, 1), new Drawn(2, 50, 130, 1, 2).all);
        Check.due("lots(2, 51, 1)", x.lots(2, 51, 1), -1);
        Check.says(24, "LOTS by a SEED (0 to 9999), what 0: ringings, 1: who came, 2: minutes waited, 3: NIGHTS, "
                + "4: the longest WAIT");
        // What was drawn ahead, with another seed or number of days, does not matter.
        int[][] asked = {{5, 2}, {0, 2}, {0, 3}, {0, 2}, {5, 3}, {5, 1}, {9999, 1}, {0, 1}, {9999, 50}};
        for (int[] a : asked) {
            Drawn drawn = new Drawn(a[0], a[1], 130, 1, 2);
            lots(x, a[0], a[1], 0, drawn.all, drawn.toMidnight, drawn.all, drawn.longest);
        }
        Check.due("lots(-1, 1, 1)", x.lots(-1, 1, 1), -1);
        Check.due("lots(10000, 1, 1)", x.lots(10000, 1, 1), -1);
        followsTheRiver();
    }

    private static void followsTheRiver() {
        EvenFerry x = Check.ferry("come 300;law 0;law 1;");
        Check.due("lots(8, 1, 3)", x.lots(8, 1, 3), 300);
        x.use(1);
        Check.due("lots(8, 1, 3) by another law", x.lots(8, 1, 3), 0);
        x.mark(0, false);
        Check.read(x, "come 300;law 0;");
        Check.due("lots(8, 1, 3) of another river", x.lots(8, 1, 3), 300);
        x.mark(0, true);
        Check.due("lots(8, 1, 3) of the marked river", x.lots(8, 1, 3), 0);
    }

    private static void otherLots() {
        Check.says(24, "4: the longest WAIT; NONE: others.");
        EvenFerry x = Check.ferry("come 1000;law 0;");
        for (int what = 0; what < 5; what++) {
            Check.due("lots(0, 1, " + what + ") is there", x.lots(0, 1, what) >= 0, true);
            Check.due("lots(-1, 1, " + what + ")", x.lots(-1, 1, what), -1);
            Check.due("lots(10000, 1, " + what + ")", x.lots(10000, 1, what), -1);
            Check.due("lots(0, 0, " + what + ")", x.lots(0, 0, what), -1);
            Check.due("lots(0, 51, " + what + ")", x.lots(0, 51, what), -1);
        }
        Check.due("lots(0, 1, 5)", x.lots(0, 1, 5), -1);
        for (int other : OTHERS) {
            Check.due("lots(" + other + ", 1, 1)", x.lots(other, 1, 1), -1);
            Check.due("lots(0, " + other + ", 1)", x.lots(0, other, 1), -1);
            Check.due("lots(0, 1, " + other + ")", x.lots(0, 1, other), -1);
        }
    }
}
