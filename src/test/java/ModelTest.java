import java.nio.charset.StandardCharsets;
import java.util.ArrayList;
import java.util.List;
import java.util.NoSuchElementException;
import java.util.Random;

/** All promises: runs of drawn calls, each answered by the class as by the plain model of the document. */
final class ModelTest {
    private static final int RUNS = 400;
    private static final int FAULT_TEXTS = 60000;
    private final Random random;
    private final Texts texts;
    private final EvenFerry ferry = new EvenFerry();
    private final Model model = new Model();
    private final List<String> before = new ArrayList<>();

    private ModelTest(long seed) {
        random = new Random(seed);
        texts = new Texts(random);
    }

    public static void main(String[] args) {
        long shift = args.length > 0 ? Long.parseLong(args[0]) : 0;
        for (int run = 0; run < RUNS; run++) {
            new ModelTest(shift + run).run(run % 8 == 0 ? 5 : 3);
        }
        ModelTest faults = new ModelTest(shift - 1);
        int right = 0;
        for (int i = 0; i < FAULT_TEXTS; i++) {
            String text = faults.texts.river(i % 10 == 0 ? 18 : 5, i % 10 == 0 ? 10 : 8);
            right += faults.read(i % 4 == 0 ? text : faults.texts.spoilt(text)) == 0 ? 1 : 0;
            faults.before.clear();
        }
        Check.due("texts of both kinds: " + right + " right ones", right > FAULT_TEXTS / 10 && right < FAULT_TEXTS * 9 / 10, true);
        Check.end();
    }

    private void due(String call, long got, long want) {
        before.add(call + " = " + got);
        Check.due(got == want ? call : String.join("\n", before) + "\n" + call, got, want);
    }

    private int read(String text) {
        byte[] bytes = text.getBytes(StandardCharsets.ISO_8859_1);
        for (int i = 0; i < bytes.length; i += 24) {
            long a = Check.eight(bytes, i);
            long b = Check.eight(bytes, i + 8);
            long c = Check.eight(bytes, i + 16);
            due("feed", ferry.feed(a, b, c), model.feed(a, b, c));
        }
        int fault = ferry.river();
        due("river() of " + text, fault, model.river());
        return fault;
    }

    private int minute() {
        return random.nextInt(12) == 0 ? random.nextInt(1600) - 80 : random.nextInt(random.nextInt(3) == 0 ? 1440 : 200);
    }

    private int small(int most) {
        return random.nextInt(most + 3) - 1;
    }

    private void run(int mostChoosers) {
        for (int k = 0; k < 4; k++) {
            String text = texts.river(random.nextInt(3) == 0 ? 13 : 7, mostChoosers);
            read(random.nextInt(6) == 0 ? texts.spoilt(text) : text);
            for (int i = 0; i < 50; i++) {
                call();
            }
        }
    }

    private void call() {
        int what = small(3);
        switch (random.nextInt(16)) {
            case 0 -> {
                int person = small(12);
                int which = small(6);
                due("person(" + person + ", " + which + ")", ferry.person(person, which), model.person(person, which));
            }
            case 1 -> {
                int law = small(4);
                due("use(" + law + ")", ferry.use(law) ? 1 : 0, model.use(law) ? 1 : 0);
            }
            case 2 -> {
                int i = small(8);
                due("rings()", ferry.rings(), model.rings());
                due("ring(" + i + ", " + what + ")", ferry.ring(i, what), model.ring(i, what));
            }
            case 3 -> {
                int person = small(12);
                due("waits(" + person + ", " + what + ")", ferry.waits(person, what), model.waits(person, what));
            }
            case 4 -> due("all(" + what + ")", ferry.all(what), model.all(what));
            case 5 -> {
                int minute = minute();
                int side = small(1);
                due("bank(" + side + ", " + minute + ", " + what + ")", ferry.bank(side, minute, what),
                        model.bank(side, minute, what));
            }
            case 6 -> {
                int minute = minute();
                due("send(" + minute + ", " + what + ")", ferry.send(minute, what), model.send(minute, what));
            }
            case 7, 8 -> turnOrAsk();
            case 9 -> choose();
            case 10 -> {
                int minute = random.nextInt(3) == 0 ? minute() : ferry.ring(ferry.count(7), 0);
                due("tell(" + minute + ")", ferry.tell(minute), model.tell(minute));
                due("judged(" + what + ")", ferry.judged(what), model.judged(what));
            }
            case 11 -> {
                due("judged(0)", ferry.judged(0), model.judged(0));
                due("judged(1)", ferry.judged(1), model.judged(1));
                if (random.nextInt(4) == 0) {
                    due("clear()", ferry.clear() ? 1 : 0, model.clear() ? 1 : 0);
                }
            }
            case 12 -> chances();
            case 13 -> {
                due("best()", ferry.best(), model.best());
            }
            case 14 -> {
                int mark = small(4);
                boolean back = random.nextBoolean();
                due("mark(" + mark + ", " + back + ")", ferry.mark(mark, back) ? 1 : 0, model.mark(mark, back) ? 1 : 0);
            }
            default -> {
                int which = small(9);
                due("count(" + which + ")", ferry.count(which), model.count(which));
            }
        }
    }

    private void turnOrAsk() {
        int minute = minute();
        due("asks(" + minute + ")", ferry.asks(minute), model.asks(minute));
        int person = random.nextInt(3) == 0 ? small(12) : ferry.asks(minute);
        due("turn(" + person + ", " + minute + ")", turn(person, minute, true), turn(person, minute, false));
    }

    private long turn(int person, int minute, boolean real) {
        try {
            return real ? ferry.turn(person, minute) : model.turn(person, minute);
        } catch (NoSuchElementException e) {
            return Long.MIN_VALUE;
        }
    }

    private void choose() {
        int sides = small(1 << Math.max(0, model.count(6)));
        due("chosen(" + sides + ")", ferry.chosen(sides), model.chosen(sides));
        switch (random.nextInt(8)) {
            case 0 -> {
                int what = small(1);
                due("choice(" + what + ")", ferry.choice(what), model.choice(what));
            }
            case 1 -> due("rests()", ferry.rests(), model.rests());
            case 2 -> {
                int i = small(6);
                due("rest(" + i + ")", ferry.rest(i), model.rest(i));
            }
            case 3 -> due("choice(1)", ferry.choice(1), model.choice(1));
            default -> due("chosen(0)", ferry.chosen(0), model.chosen(0));
        }
    }

    private void chances() {
        int n = small(16);
        int what = small(1);
        due("likely(" + n + ", " + what + ")", ferry.likely(n, what), model.likely(n, what));
        due("mean(" + n + ", " + what + ")", ferry.mean(n, what), model.mean(n, what));
        due("came(" + n + ")", ferry.came(n), model.came(n));
        if (random.nextInt(4) == 0) {
            int seed = random.nextInt(10000);
            int days = 1 + random.nextInt(3);
            int which = random.nextInt(5);
            due("lots(" + seed + ", " + days + ", " + which + ")", ferry.lots(seed, days, which),
                    model.lots(seed, days, which));
        }
    }
}
