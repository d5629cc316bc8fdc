import java.lang.management.ManagementFactory;
import java.util.NoSuchElementException;
import java.util.Random;

/** No call throws by itself, whatever its arguments and the state, and the calls of an object make little. */
final class WildTest {
    private static final int[] EDGES = {Integer.MIN_VALUE, Integer.MIN_VALUE + 1, -1441, -257, -2, -1, 0, 1, 2, 3, 4, 5, 7, 8,
        15, 16, 17, 29, 30, 31, 32, 33, 39, 40, 41, 50, 51, 255, 256, 257, 299, 300, 301, 1000, 1438, 1439, 1440, 9999,
        10000, 65536, Integer.MAX_VALUE - 1, Integer.MAX_VALUE};
    private final Random random;
    private final Texts texts;
    private final EvenFerry ferry = new EvenFerry();

    private WildTest(long seed) {
        random = new Random(seed);
        texts = new Texts(random);
    }

    public static void main(String[] args) {
        for (int seed = 0; seed < 300; seed++) {
            WildTest test = new WildTest(seed);
            int faults = 0;
            for (int call = 0; call < 512; call++) {
                faults += test.callThrows() ? 1 : 0;
            }
            Check.due("calls of run " + seed + " that throw by themselves", faults, 0);
        }
        fullTape();
        room();
        Check.end();
    }

    private int edge() {
        return random.nextInt(3) == 0 ? random.nextInt(20) - 2 : EDGES[random.nextInt(EDGES.length)];
    }

    private boolean callThrows() {
        try {
            call(random.nextInt(30));
            return false;
        } catch (RuntimeException | StackOverflowError e) {
            e.printStackTrace(System.out);
            return true;
        }
    }

    private void call(int which) {
        switch (which) {
            case 0 -> ferry.feed(random.nextLong(), random.nextLong(), random.nextLong());
            case 1 -> ferry.river();
            case 2 -> ferry.person(edge(), edge());
            case 3 -> ferry.use(edge());
            case 4 -> ferry.rings();
            case 5 -> ferry.ring(edge(), edge());
            case 6 -> ferry.waits(edge(), edge());
            case 7 -> ferry.all(edge());
            case 8 -> ferry.bank(edge(), edge(), edge());
            case 9 -> ferry.send(edge(), edge());
            case 10 -> {
                try {
                    ferry.turn(edge(), edge());
                } catch (NoSuchElementException e) {
                    return;
                }
            }
            case 11 -> ferry.asks(edge());
            case 12 -> ferry.choice(edge());
            case 13 -> ferry.chosen(edge());
            case 14 -> ferry.rests();
            case 15 -> ferry.rest(edge());
            case 16 -> ferry.tell(edge());
            case 17 -> ferry.clear();
            case 18 -> ferry.judged(edge());
            case 19 -> ferry.likely(edge(), edge());
            case 20 -> ferry.mean(edge(), edge());
            case 21 -> ferry.came(edge());
            case 22 -> ferry.lots(edge(), edge(), edge());
            case 23 -> ferry.best();
            case 24 -> ferry.mark(edge(), random.nextBoolean());
            case 25 -> ferry.count(edge());
            default -> {
                String text = texts.river(16, 8);
                Check.feed(ferry, which == 26 ? texts.spoilt(text) : text);
                ferry.river();
            }
        }
    }

    private static String repeated(String begin, String part, String end) {
        StringBuilder text = new StringBuilder(begin);
        while (text.length() + part.length() + end.length() <= 1000) {
            text.append(part);
        }
        return text.append(end).toString();
    }

    /** The longest laws, the deepest ones, and the most tokens that a tape can hold. */
    private static void fullTape() {
        EvenFerry x = Check.ferry(repeated("person a left at 0 weight 1 cost 1 dog;law 1", "+1", ";"));
        Check.due("rings() by the longest sum", x.rings(), 1);
        x = Check.ferry(repeated("person a left at 0 weight 1 cost 1 dog;law 1", "*2", ";"));
        Check.due("rings() by the longest product", x.rings(), 0);
        String deep = "0 or 0=0-0*(0 or 0=0-0*(0 or 0=0-0*(0 or 0=0-0*(0 or 0=0-0*left))))";
        x = Check.ferry("law " + deep + ";person a left at 3 weight 1 cost 1 plain;");
        Check.due("rings() by the deepest law", x.rings(), 1);
        Check.due("river() of 1,000 (", Check.read(x, "(".repeat(1000)), 1);
        Check.due("river() of many (", Check.read(x, "law " + "(".repeat(996)), 5 + 16 * 9);
        Check.due("river() of many not", Check.read(x, "law " + "not ".repeat(249)), 5 + 16 * 24);
        Check.due("river() of 1,000 ;", Check.read(x, ";".repeat(1000)), 1);
        Check.due("river() of a long word", Check.read(x, "a".repeat(1000)), 1);
        Check.due("river() of a long number", Check.read(x, "law " + "9".repeat(996)), 1 + 16 * 4);
    }

    /** The room of a run is small: an object, and all that its calls make, must stay far below it. */
    private static void room() {
        com.sun.management.ThreadMXBean meter = (com.sun.management.ThreadMXBean) ManagementFactory.getThreadMXBean();
        long begin = meter.getThreadAllocatedBytes(Thread.currentThread().getId());
        EvenFerry x = new EvenFerry();
        long made = meter.getThreadAllocatedBytes(Thread.currentThread().getId());
        Check.due("bytes of an object: " + (made - begin), made - begin < 80000, true);
        for (int i = 0; i < 100; i++) {
            x.feed(0x6C617720313B2020L, 0, 0);
            x.river();
            x.rests();
            x.send(i, 0);
            x.lots(i, 2, 0);
        }
        long end = meter.getThreadAllocatedBytes(Thread.currentThread().getId());
        Check.due("bytes of 500 calls: " + (end - made), end - made < 200000, true);
    }
}
