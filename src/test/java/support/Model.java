import java.math.BigInteger;
import java.util.ArrayList;
import java.util.Arrays;
import java.util.Comparator;
import java.util.HashSet;
import java.util.List;
import java.util.NoSuchElementException;
import java.util.Set;
import java.util.function.ToIntFunction;
import java.util.regex.Matcher;
import java.util.regex.Pattern;

/** The document written a second time, as plainly as can be: minute by minute, nothing kept, nothing skipped. */
final class Model {
    static final List<String> KINDS = List.of("plain", "dog", "child", "cart", "turner", "chooser");
    private static final Set<String> RESERVED = new HashSet<>(List.of("room", "trip", "boats", "side", "of", "come", "law",
            "person", "at", "weight", "cost", "left", "right", "lload", "rload", "wait", "minute", "not", "and", "or"));
    private static final List<String> FACTS = List.of("left", "right", "lload", "rload", "wait", "minute");
    private static final ToIntFunction<int[]> EVEN = f -> f[0] == f[1] && f[0] > 0 ? 1 : 0;

    static {
        RESERVED.addAll(KINDS);
    }

    record Person(int number, int side, int at, int weight, int cost, int kind) {
        int count() {
            return kind == 1 ? 0 : kind == 2 ? 1 : kind == 3 ? 4 : 2;
        }

        Person on(int other) {
            return new Person(number, other, at, weight, cost, kind);
        }
    }

    static final class River {
        int room = 40;
        int trip = 10;
        int boats = 1;
        int first = 1;
        int second = 2;
        int come = 50;
        List<ToIntFunction<int[]>> laws = new ArrayList<>();
        List<Person> people = new ArrayList<>();
    }

    static final class Fault extends RuntimeException {
        private static final long serialVersionUID = 1;
        final int number;

        Fault(int kind, int place) {
            number = kind + 16 * place;
        }
    }

    record Token(String text, int place) {
    }

    private record Held(River river, int law, List<Integer> told) {
    }

    private final StringBuilder tape = new StringBuilder();
    private final Held[] marks = new Held[4];
    private River river = new River();
    private int law = -1;
    private List<Integer> told = new ArrayList<>();

    int feed(long... words) {
        for (long word : words) {
            for (byte sign : BigInteger.valueOf(word).and(BigInteger.ONE.shiftLeft(64).subtract(BigInteger.ONE))
                    .setBit(71).toByteArray()) {
                if (tape.length() < 1000 && (sign == 10 || sign >= 32 && sign < 127)) {
                    tape.append((char) sign);
                }
            }
        }
        return tape.length();
    }

    int river() {
        String text = tape.toString();
        tape.setLength(0);
        try {
            river = new Reader(text).river();
        } catch (Fault fault) {
            return fault.number;
        }
        law = river.laws.isEmpty() ? -1 : 0;
        told = new ArrayList<>();
        return 0;
    }

    /** A reader that asks of each token whether it may stand there; the end is the token "". */
    private static final class Reader {
        private final List<Token> tokens = new ArrayList<>();
        private final Set<String> once = new HashSet<>();
        private final Set<String> names = new HashSet<>();
        private final River river = new River();
        private int next = 0;

        Reader(String text) {
            Matcher matcher = Pattern.compile("[a-z]+|[0-9]+|[^ \n]").matcher(text);
            while (matcher.find()) {
                tokens.add(new Token(matcher.group(), matcher.start()));
            }
            tokens.add(new Token("", text.length()));
        }

        Token peek() {
            return tokens.get(next);
        }

        boolean is(String text) {
            return peek().text.equals(text);
        }

        Fault fault(int kind) {
            return new Fault(kind, peek().place);
        }

        String take(String pattern) {
            if (!peek().text.matches(pattern)) {
                throw fault(1);
            }
            return tokens.get(next++).text;
        }

        int number(int least, int most) {
            if (!peek().text.matches("[0-9]{1,4}")) {
                throw fault(1);
            }
            int value = Integer.parseInt(peek().text);
            if (value < least || value > most) {
                throw fault(4);
            }
            next++;
            return value;
        }

        River river() {
            while (!is("")) {
                String word = peek().text;
                if (!word.matches("room|trip|boats|side|come|law|person")) {
                    throw fault(1);
                }
                if (word.equals("law")) {
                    if (river.laws.size() == 4) {
                        throw fault(5);
                    }
                    next++;
                    river.laws.add(e(0));
                } else if (word.equals("person")) {
                    if (river.people.size() == 16) {
                        throw fault(5);
                    }
                    next++;
                    person();
                } else {
                    if (!once.add(word)) {
                        throw fault(3);
                    }
                    next++;
                    numbers(word);
                }
                take(";");
            }
            return river;
        }

        void numbers(String word) {
            if (word.equals("room")) {
                river.room = number(1, 40);
            } else if (word.equals("trip")) {
                river.trip = number(0, 99);
            } else if (word.equals("boats")) {
                river.boats = number(1, 2);
            } else if (word.equals("come")) {
                river.come = number(0, 1000);
            } else {
                river.first = number(1, 8);
                take("of");
                river.second = number(Math.max(2, river.first + 1), 9);
            }
        }

        void person() {
            String name = peek().text;
            if (!name.matches("[a-z]{1,8}") || RESERVED.contains(name)) {
                throw fault(1);
            }
            if (!names.add(name)) {
                throw fault(3);
            }
            next++;
            int side = take("left|right").equals("left") ? 0 : 1;
            take("at");
            int at = number(0, 1439);
            take("weight");
            int weight = number(0, 999);
            take("cost");
            int cost = number(0, 99);
            int kind = KINDS.indexOf(peek().text);
            if (kind < 0) {
                throw fault(1);
            }
            if (kind == 5 && river.people.stream().filter(p -> p.kind == 5).count() == 8) {
                throw fault(5);
            }
            next++;
            river.people.add(new Person(river.people.size(), side, at, weight, cost, kind));
        }

        private static int so(boolean is) {
            return is ? 1 : 0;
        }

        ToIntFunction<int[]> e(int within) {
            ToIntFunction<int[]> value = test(within);
            while (is("and") || is("or")) {
                boolean and = take("and|or").equals("and");
                ToIntFunction<int[]> a = value;
                ToIntFunction<int[]> b = test(within);
                value = and ? f -> so(a.applyAsInt(f) != 0 && b.applyAsInt(f) != 0)
                        : f -> so(a.applyAsInt(f) != 0 || b.applyAsInt(f) != 0);
            }
            return value;
        }

        ToIntFunction<int[]> test(int within) {
            ToIntFunction<int[]> a = sum(within);
            if (is("<")) {
                next++;
                ToIntFunction<int[]> b = sum(within);
                return f -> so(a.applyAsInt(f) < b.applyAsInt(f));
            }
            if (is("=")) {
                next++;
                ToIntFunction<int[]> b = sum(within);
                return f -> so(a.applyAsInt(f) == b.applyAsInt(f));
            }
            return a;
        }

        ToIntFunction<int[]> sum(int within) {
            ToIntFunction<int[]> value = product(within);
            while (is("+") || is("-")) {
                int sign = take("[+-]").equals("+") ? 1 : -1;
                ToIntFunction<int[]> a = value;
                ToIntFunction<int[]> b = product(within);
                value = f -> a.applyAsInt(f) + sign * b.applyAsInt(f);
            }
            return value;
        }

        ToIntFunction<int[]> product(int within) {
            ToIntFunction<int[]> value = part(within);
            while (is("*")) {
                next++;
                ToIntFunction<int[]> a = value;
                ToIntFunction<int[]> b = part(within);
                value = f -> a.applyAsInt(f) * b.applyAsInt(f);
            }
            return value;
        }

        ToIntFunction<int[]> part(int within) {
            String text = peek().text;
            int fact = FACTS.indexOf(text);
            if (fact < 0 && !text.matches("[0-9]{1,4}|not|\\(")) {
                throw fault(1);
            }
            if (within == 5) {
                throw fault(5);
            }
            next++;
            if (fact >= 0) {
                return f -> f[fact];
            }
            if (text.equals("not")) {
                ToIntFunction<int[]> a = part(within + 1);
                return f -> so(a.applyAsInt(f) == 0);
            }
            if (text.equals("(")) {
                ToIntFunction<int[]> a = e(within + 1);
                take("\\)");
                return a;
            }
            int value = Integer.parseInt(text);
            return f -> value;
        }
    }

    /** A day gone through: when it rang, who went by which, who waited behind each minute. */
    private static final class Day {
        final List<int[]> rings = new ArrayList<>();
        final int[] goes;
        final int[] by;
        final List<List<Person>> behind = new ArrayList<>();
        boolean rangWithGuests = false;

        Day(int people) {
            goes = new int[people];
            by = new int[people];
            Arrays.fill(goes, 1440);
            Arrays.fill(by, -1);
        }
    }

    private static int[] facts(List<Person> waiting, int minute) {
        int[] facts = new int[6];
        for (Person p : waiting) {
            facts[p.side] += p.count();
            facts[2 + p.side] += p.weight;
            facts[4] = Math.max(facts[4], minute - p.at);
        }
        facts[5] = minute;
        return facts;
    }

    /** What may be otherwise than told in a day: one goes home behind a minute, guests come in one, ringings are told. */
    private static final class Change {
        int leaver = -1;
        int leaves = -1;
        List<Person> guests = List.of();
        int guestMinute = -1;
        List<Integer> told = null;
        int misjudged = -1;
        int kind = -1;
    }

    private Day day(List<Person> people, int byLaw, Change change) {
        ToIntFunction<int[]> lawNow = byLaw < 0 ? EVEN : river.laws.get(byLaw);
        Day day = new Day(people.size() + change.guests.size());
        List<Person> waiting = new ArrayList<>();
        int[] away = new int[river.boats];
        List<Person> inOrder = new ArrayList<>(people);
        inOrder.sort(Comparator.comparingInt(Person::at));
        for (int minute = 0; minute < 1440; minute++) {
            for (Person p : inOrder) {
                if (p.at == minute) {
                    waiting.add(p);
                }
            }
            if (minute == change.guestMinute) {
                waiting.addAll(change.guests);
            }
            int rang = 0;
            boolean isTold = change.told != null && change.told.contains(minute);
            while (true) {
                int boat = 0;
                while (boat < away.length && away[boat] > minute) {
                    boat++;
                }
                boolean would = boat < away.length && !waiting.isEmpty() && lawNow.applyAsInt(facts(waiting, minute)) != 0;
                if (change.told != null && rang == 0 && would != isTold) {
                    change.misjudged = minute;
                    change.kind = isTold ? 1 : 2;
                    return day;
                }
                if (!would || change.told != null && rang == 1) {
                    break;
                }
                int[] gone = {minute, 0, 0};
                for (Person p : new ArrayList<>(waiting)) {
                    if (gone[1 + p.side] < river.room) {
                        gone[1 + p.side]++;
                        waiting.remove(p);
                        day.goes[p.number] = minute;
                        day.by[p.number] = day.rings.size();
                    }
                }
                day.rings.add(gone);
                away[boat] = minute + river.trip;
                rang++;
            }
            if (minute == change.guestMinute) {
                day.rangWithGuests = rang > 0;
                return day;
            }
            if (minute == change.leaves) {
                waiting.removeIf(p -> p.number == change.leaver);
            }
            day.behind.add(new ArrayList<>(waiting));
        }
        return day;
    }

    private Day today() {
        return day(river.people, law, new Change());
    }

    private static int cost(List<Person> people, Day day, int without) {
        return people.stream().filter(p -> p.number != without).mapToInt(p -> p.cost * (day.goes[p.number] - p.at)).sum();
    }

    private boolean isPerson(int person) {
        return person >= 0 && person < river.people.size();
    }

    private static boolean within(int value, int least, int most) {
        return value >= least && value <= most;
    }

    int person(int person, int what) {
        if (!isPerson(person) || !within(what, 0, 5)) {
            return -1;
        }
        Person p = river.people.get(person);
        return new int[] {p.side, p.at, p.weight, p.cost, p.kind, p.count()}[what];
    }

    boolean use(int which) {
        if (!within(which, -1, river.laws.size() - 1)) {
            return false;
        }
        law = which;
        return true;
    }

    int rings() {
        return today().rings.size();
    }

    int ring(int i, int what) {
        List<int[]> rings = today().rings;
        return within(i, 0, rings.size() - 1) && within(what, 0, 2) ? rings.get(i)[what] : -1;
    }

    int waits(int person, int what) {
        if (!isPerson(person) || !within(what, 0, 1)) {
            return -1;
        }
        Day day = today();
        return what == 0 ? day.goes[person] - river.people.get(person).at : day.by[person];
    }

    int all(int what) {
        Day day = today();
        if (what == 0) {
            return cost(river.people, day, -1);
        }
        if (what == 1) {
            return river.people.stream().mapToInt(p -> day.goes[p.number] - p.at).max().orElse(0);
        }
        return what == 2 ? river.people.stream().mapToInt(p -> day.by[p.number] < 0 ? 1 << p.number : 0).sum() : -1;
    }

    int bank(int side, int minute, int what) {
        if (!within(side, 0, 1) || !within(minute, 0, 1439) || !within(what, 0, 2)) {
            return -1;
        }
        return today().behind.get(minute).stream().filter(p -> p.side == side)
                .mapToInt(p -> what == 0 ? 1 : what == 1 ? p.count() : p.weight).sum();
    }

    int send(int minute, int what) {
        if (!within(minute, 0, 1439) || !within(what, 0, 1)) {
            return -1;
        }
        for (int number = 0; number <= 40; number++) {
            for (int side = 0; side < 2; side++) {
                Change change = new Change();
                change.guestMinute = minute;
                change.guests = new ArrayList<>();
                for (int i = 0; i < number; i++) {
                    change.guests.add(new Person(river.people.size() + i, side, minute, 70, 0, 0));
                }
                if (day(river.people, law, change).rangWithGuests) {
                    return what == 0 ? number : number == 0 ? -1 : side;
                }
            }
        }
        return -1;
    }

    int turn(int person, int minute) {
        if (!isPerson(person) || !within(minute, 0, 1439) || river.people.get(person).kind != 4
                || today().behind.get(minute).stream().noneMatch(p -> p.number == person)) {
            throw new NoSuchElementException();
        }
        Change change = new Change();
        change.leaver = person;
        change.leaves = minute;
        return cost(river.people, today(), person) - cost(river.people, day(river.people, law, change), person);
    }

    int asks(int minute) {
        int who = -1;
        long most = Long.MIN_VALUE;
        for (int person = 0; person < river.people.size(); person++) {
            try {
                int gain = turn(person, minute);
                if (gain > most) {
                    most = gain;
                    who = person;
                }
            } catch (NoSuchElementException e) {
                continue;
            }
        }
        return who;
    }

    private List<Integer> choosers() {
        List<Integer> numbers = new ArrayList<>();
        river.people.stream().filter(p -> p.kind == 5).forEach(p -> numbers.add(p.number));
        return numbers;
    }

    private List<Person> chosenPeople(int sides) {
        List<Person> people = new ArrayList<>(river.people);
        List<Integer> choosers = choosers();
        for (int i = 0; i < choosers.size(); i++) {
            people.set(choosers.get(i), people.get(choosers.get(i)).on(sides >> i & 1));
        }
        return people;
    }

    int choice(int what) {
        if (!within(what, 0, 1)) {
            return -1;
        }
        int best = 0;
        for (int sides = 0; sides < 1 << choosers().size(); sides++) {
            if (chosen(sides) < chosen(best)) {
                best = sides;
            }
        }
        return what == 0 ? chosen(best) : best;
    }

    int chosen(int sides) {
        if (!within(sides, 0, (1 << choosers().size()) - 1)) {
            return -1;
        }
        List<Person> people = chosenPeople(sides);
        return cost(people, day(people, law, new Change()), -1);
    }

    private int own(int sides, int person) {
        List<Person> people = chosenPeople(sides);
        Day day = day(people, law, new Change());
        return people.get(person).cost * (day.goes[person] - people.get(person).at);
    }

    private List<Integer> resting() {
        List<Integer> found = new ArrayList<>();
        List<Integer> choosers = choosers();
        for (int sides = 0; sides < 1 << choosers.size(); sides++) {
            boolean rests = true;
            for (int i = 0; i < choosers.size(); i++) {
                rests = rests && own(sides ^ 1 << i, choosers.get(i)) >= own(sides, choosers.get(i));
            }
            if (rests) {
                found.add(sides);
            }
        }
        return found;
    }

    int rests() {
        return resting().size();
    }

    int rest(int i) {
        List<Integer> found = resting();
        return within(i, 0, found.size() - 1) ? found.get(i) : -1;
    }

    int tell(int minute) {
        if (!within(minute, 0, 1439) || told.size() == 30 || !told.isEmpty() && told.get(told.size() - 1) >= minute) {
            return -1;
        }
        told.add(minute);
        return told.size();
    }

    boolean clear() {
        told.clear();
        return true;
    }

    int judged(int what) {
        Change change = new Change();
        change.told = told;
        day(river.people, law, change);
        return what == 0 ? change.misjudged : what == 1 ? change.kind : -1;
    }

    /** The chances of each n to be the first level one, above the second number of side to the nth. */
    private BigInteger[] firstLevels() {
        BigInteger[] level = new BigInteger[17];
        BigInteger[] ways = new BigInteger[41];
        Arrays.fill(ways, BigInteger.ZERO);
        ways[20] = BigInteger.ONE;
        for (int n = 1; n <= 16; n++) {
            BigInteger[] after = new BigInteger[41];
            Arrays.fill(after, BigInteger.ZERO);
            for (int d = 1; d < 40; d++) {
                after[d + 1] = after[d + 1].add(ways[d].multiply(BigInteger.valueOf(river.first)));
                after[d - 1] = after[d - 1].add(ways[d].multiply(BigInteger.valueOf(river.second - river.first)));
            }
            level[n] = after[20];
            after[20] = BigInteger.ZERO;
            ways = after;
        }
        return level;
    }

    private BigInteger upTo(int n, boolean weighted) {
        BigInteger sum = BigInteger.ZERO;
        BigInteger[] level = firstLevels();
        for (int i = 1; i <= n; i++) {
            sum = sum.multiply(BigInteger.valueOf(river.second))
                    .add(level[i].multiply(BigInteger.valueOf(weighted ? i : 1)));
        }
        return sum;
    }

    private static long lowest(BigInteger above, BigInteger below, int what) {
        return (what == 0 ? above : below).divide(above.gcd(below)).longValueExact();
    }

    long likely(int n, int what) {
        return !within(n, 1, 16) || !within(what, 0, 1) ? -1
                : lowest(upTo(n, false), BigInteger.valueOf(river.second).pow(n), what);
    }

    long mean(int n, int what) {
        return !within(n, 2, 16) || !within(what, 0, 1) ? -1 : lowest(upTo(n, true), upTo(n, false), what);
    }

    /** Orders of 2 k that are first level at the last: those that stay above, twice. */
    long came(int k) {
        if (!within(k, 1, 15)) {
            return -1;
        }
        long[] above = new long[40];
        above[1] = 1;
        for (int n = 2; n < 2 * k; n++) {
            long[] after = new long[40];
            for (int d = 1; d < 39; d++) {
                after[d + 1] += above[d];
                after[d - 1] += above[d];
            }
            after[0] = 0;
            above = after;
        }
        return 2 * above[1];
    }

    private long g;

    private int draw(int m) {
        g = BigInteger.valueOf(g).multiply(BigInteger.valueOf(1103515245)).add(BigInteger.valueOf(12345))
                .mod(BigInteger.valueOf(2147483648L)).longValueExact();
        return (int) (g / 65536 % m);
    }

    int lots(int seed, int days, int what) {
        if (!within(seed, 0, 9999) || !within(days, 1, 50) || !within(what, 0, 4)) {
            return -1;
        }
        g = seed;
        int[] sums = new int[5];
        for (int d = 0; d < days; d++) {
            List<Person> people = new ArrayList<>();
            for (int minute = 0; minute < 1440; minute++) {
                if (people.size() < 300 && draw(1000) < river.come) {
                    int side = draw(river.second) < river.first ? 0 : 1;
                    people.add(new Person(people.size(), side, minute, 70, 0, 0));
                }
            }
            Day day = day(people, law, new Change());
            sums[0] += day.rings.size();
            sums[1] += people.size();
            for (Person p : people) {
                int wait = day.goes[p.number] - p.at;
                sums[2] += wait;
                sums[3] += day.by[p.number] < 0 ? 1 : 0;
                sums[4] = Math.max(sums[4], wait);
            }
        }
        return sums[what];
    }

    int best() {
        int best = -1;
        int least = Integer.MAX_VALUE;
        for (int i = 0; i < river.laws.size(); i++) {
            int cost = cost(river.people, day(river.people, i, new Change()), -1);
            if (cost < least) {
                least = cost;
                best = i;
            }
        }
        return best;
    }

    boolean mark(int mark, boolean back) {
        if (!within(mark, 0, 3) || back && marks[mark] == null) {
            return false;
        }
        if (back) {
            river = marks[mark].river;
            law = marks[mark].law;
            told = new ArrayList<>(marks[mark].told);
        } else {
            marks[mark] = new Held(river, law, List.copyOf(told));
        }
        return true;
    }

    int count(int what) {
        int[] counts = {river.people.size(), river.laws.size(), law, river.room, river.trip, river.boats,
            choosers().size(), told.size(), tape.length()};
        return within(what, 0, 8) ? counts[what] : -1;
    }
}
