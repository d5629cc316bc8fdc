import java.math.BigInteger;

/** Promises 21 to 24: chances to be level, their mean, ways to have come, and days drawn. */
final class ChanceTest {
    public static void main(String[] args) {
        for (int second = 2; second <= 9; second++) {
            for (int first = 1; first < second; first++) {
                chances(first, second);
            }
        }
        wrongAsking();
        ways();
        lotsByHand();
        lotsOfAll();
        lotsFollowTheRiver();
        lotsOneBehindAnother();
        Check.end();
    }

    /** Goes through all orders by their difference: how many weigh how much, first level at each n. */
    private static BigInteger[] firstLevels(int first, int second) {
        BigInteger[] level = new BigInteger[17];
        BigInteger[] ways = new BigInteger[41];
        java.util.Arrays.fill(ways, BigInteger.ZERO);
        ways[20] = BigInteger.ONE;
        for (int n = 1; n <= 16; n++) {
            BigInteger[] next = new BigInteger[41];
            java.util.Arrays.fill(next, BigInteger.ZERO);
            for (int d = 1; d < 40; d++) {
                next[d + 1] = next[d + 1].add(ways[d].multiply(BigInteger.valueOf(first)));
                next[d - 1] = next[d - 1].add(ways[d].multiply(BigInteger.valueOf(second - first)));
            }
            level[n] = next[20];
            next[20] = BigInteger.ZERO;
            ways = next;
        }
        return level;
    }

    private static void chances(int first, int second) {
        EvenFerry x = Check.ferry("side " + first + " of " + second + ";");
        BigInteger[] level = firstLevels(first, second);
        BigInteger base = BigInteger.valueOf(second);
        BigInteger sum = BigInteger.ZERO;
        BigInteger weighted = BigInteger.ZERO;
        for (int n = 1; n <= 16; n++) {
            sum = sum.multiply(base).add(level[n]);
            weighted = weighted.multiply(base).add(level[n].multiply(BigInteger.valueOf(n)));
            BigInteger below = base.pow(n);
            BigInteger common = sum.gcd(below);
            String of = " of side " + first + " of " + second;
            Check.due("likely(" + n + ", 0)" + of, x.likely(n, 0), sum.divide(common).longValueExact());
            Check.due("likely(" + n + ", 1)" + of, x.likely(n, 1), below.divide(common).longValueExact());
            if (n >= 2) {
                common = weighted.gcd(sum);
                Check.due("mean(" + n + ", 0)" + of, x.mean(n, 0), weighted.divide(common).longValueExact());
                Check.due("mean(" + n + ", 1)" + of, x.mean(n, 1), sum.divide(common).longValueExact());
            }
        }
    }

    private static void wrongAsking() {
        EvenFerry x = new EvenFerry();
        int[] wrong = {Integer.MIN_VALUE, -1, 0, 17, Integer.MAX_VALUE};
        for (int n : wrong) {
            Check.due("likely(" + n + ", 0)", x.likely(n, 0), -1);
            Check.due("mean(" + n + ", 1)", x.mean(n, 1), -1);
        }
        Check.due("mean(1, 0)", x.mean(1, 0), -1);
        Check.due("likely(2, 2)", x.likely(2, 2), -1);
        Check.due("likely(2, -1)", x.likely(2, -1), -1);
        Check.due("mean(2, 2)", x.mean(2, 2), -1);
        Check.due("mean(2, -1)", x.mean(2, -1), -1);
        Check.due("came(0)", x.came(0), -1);
        Check.due("came(16)", x.came(16), -1);
        Check.due("came(-1)", x.came(-1), -1);
        int[][] lots = {{-1, 1, 0}, {10000, 1, 0}, {0, 0, 0}, {0, 51, 0}, {0, 1, -1}, {0, 1, 5}};
        for (int[] l : lots) {
            Check.due("lots(" + l[0] + ", " + l[1] + ", " + l[2] + ")", x.lots(l[0], l[1], l[2]), -1);
        }
        Check.due("lots(9999, 50, 4) is there", x.lots(9999, 50, 4) >= 0, true);
    }

    private static void ways() {
        EvenFerry x = new EvenFerry();
        for (int k = 1; k <= 7; k++) {
            int found = 0;
            for (int sides = 0; sides < 1 << 2 * k; sides++) {
                found += firstLevel(sides, 2 * k) == 2 * k ? 1 : 0;
            }
            Check.due("came(" + k + ")", x.came(k), found);
        }
        long[] rest = {858, 2860, 9724, 33592, 117572, 416024, 1485800, 5348880};
        for (int k = 8; k <= 15; k++) {
            Check.due("came(" + k + ")", x.came(k), rest[k - 8]);
        }
    }

    private static int firstLevel(int sides, int number) {
        int more = 0;
        for (int n = 1; n <= number; n++) {
            more += (sides >> n - 1 & 1) == 0 ? 1 : -1;
            if (more == 0) {
                return n;
            }
        }
        return 0;
    }

    private static void lotsByHand() {
        EvenFerry nobody = Check.ferry("come 0;law 1;");
        for (int what = 0; what < 5; what++) {
            Check.due("lots(5, 50, " + what + ") of nobody", nobody.lots(5, 50, what), 0);
        }
        EvenFerry never = Check.ferry("come 1000;law 0;");
        int waited = 0;
        for (int at = 0; at < 300; at++) {
            waited += 1440 - at;
        }
        int[] due = {0, 600, 2 * waited, 600, 1440};
        for (int what = 0; what < 5; what++) {
            Check.due("lots(3, 2, " + what + ") by no law", never.lots(3, 2, what), due[what]);
        }
        EvenFerry full = Check.ferry("come 1000;room 1;trip 99;law 1;");
        Check.due("lots(3, 1, 0) with a long trip", full.lots(3, 1, 0), 15);
    }

    /** The draws as told, one stream for all days: how many come, and the same once more. */
    private static void lotsOfAll() {
        EvenFerry x = Check.ferry("come 137;side 2 of 5;law 0;");
        int[] seeds = {0, 1, 9999, 4321};
        for (int seed : seeds) {
            long g = seed;
            int all = 0;
            int waited = 0;
            int longest = 0;
            for (int day = 0; day < 3; day++) {
                int came = 0;
                for (int minute = 0; minute < 1440 && came < 300; minute++) {
                    g = (g * 1103515245L + 12345L) % 2147483648L;
                    if (g / 65536 % 1000 < 137) {
                        g = (g * 1103515245L + 12345L) % 2147483648L;
                        came++;
                        waited += 1440 - minute;
                        longest = Math.max(longest, 1440 - minute);
                    }
                }
                all += came;
            }
            int[] due = {0, all, waited, all, longest};
            for (int what = 4; what >= 0; what--) {
                Check.due("lots(" + seed + ", 3, " + what + ")", x.lots(seed, 3, what), due[what]);
            }
        }
    }

    private static void lotsFollowTheRiver() {
        EvenFerry x = Check.ferry("come 300;law 0;law 1;person a left at 1 weight 1 cost 1 plain;");
        Check.due("lots(8, 1, 0)", x.lots(8, 1, 0), 0);
        x.use(1);
        Check.due("lots(8, 1, 0) by another law", x.lots(8, 1, 0) > 0, true);
        Check.due("lots(8, 1, 3) by another law", x.lots(8, 1, 3) < 300, true);
        x.mark(0, false);
        int waited = x.lots(8, 1, 2);
        Check.read(x, "come 300;law 0;");
        Check.due("lots(8, 1, 3) of another river", x.lots(8, 1, 3), 300);
        x.mark(0, true);
        Check.due("lots(8, 1, 2) of the marked river", x.lots(8, 1, 2), waited);
    }

    /** What was drawn before, with another seed or number of days, does not matter. */
    private static void lotsOneBehindAnother() {
        int[][] asked = {{5, 2}, {0, 2}, {0, 3}, {0, 2}, {5, 3}, {5, 1}, {9999, 1}, {0, 1}};
        EvenFerry x = Check.ferry("come 130;");
        for (int[] a : asked) {
            EvenFerry fresh = Check.ferry("come 130;");
            for (int what = 0; what < 5; what++) {
                Check.due("lots(" + a[0] + ", " + a[1] + ", " + what + ")", x.lots(a[0], a[1], what),
                        fresh.lots(a[0], a[1], what));
            }
        }
        Check.due("lots(5, 2, 1) is not lots(5, 3, 1)", x.lots(5, 2, 1) < x.lots(5, 3, 1), true);
    }
}
