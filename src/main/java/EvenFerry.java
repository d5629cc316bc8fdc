import java.util.Arrays;
import java.util.NoSuchElementException;

/**
 * A ferry that goes when just as many wait on this side as on that, and takes both lots over at once.
 *
 * <p>Rows are made in constructors and used again, because the calls of a run share one small room; only a river
 * that is read is new, so that marks can go on holding the ones before.
 */
public final class EvenFerry {
    public static final int NONE = -1;

    private static final int MINUTES = 1440;
    private static final int MOST_SIGNS = 1000;
    private static final int MOST_PERSONS = 16;
    private static final int MOST_LAWS = 4;
    private static final int MOST_CHOOSERS = 8;
    private static final int MOST_CHOICES = 256;
    private static final int MOST_TOLD = 30;
    private static final int MOST_SENT = 40;
    private static final int MOST_DRAWN = 300;
    private static final int MOST_DAYS = 50;
    private static final int MOST_SEED = 9999;
    private static final int MOST_LEVEL = 16;
    private static final int MOST_PAIRS = 15;
    private static final int MARKS = 4;
    private static final int BANKS = 2;
    private static final int PLAIN_COUNT = 2;
    private static final int PLAIN_WEIGHT = 70;

    // The kinds of tokens: a sign is its own number, so the others keep clear of 40 to 61.
    private static final int END = 0;
    private static final int BAD = 1;
    private static final int NUMBER = 2;
    private static final int NAME = 3;
    private static final int FIRST_WORD = 64;
    private static final int WORD_SIGNS = 8;
    private static final int NUMBER_SIGNS = 4;
    private static final String SIGNS = "()<=+-*;";
    // Eight signs a word, so that the place tells its number.
    private static final String WORDS = "room    trip    boats   side    come    law     person  of      at      weight  cost    left    right   lload   rload   wait    minute  plain   dog     child   cart    turner  chooser not     and     or      ";
    private static final int ROOM = 64;
    private static final int TRIP = 65;
    private static final int BOATS = 66;
    private static final int SIDE = 67;
    private static final int COME = 68;
    private static final int LAW = 69;
    private static final int PERSON = 70;
    private static final int OF = 71;
    private static final int AT = 72;
    private static final int WEIGHT = 73;
    private static final int COST = 74;
    private static final int LEFT = 75;
    private static final int RIGHT = 76;
    private static final int WAIT = 79;
    private static final int MINUTE = 80;
    private static final int PLAIN = 81;
    private static final int DOG = 82;
    private static final int CHILD = 83;
    private static final int CART = 84;
    private static final int TURNER = 85;
    private static final int CHOOSER = 86;
    private static final int NOT = 87;
    private static final int AND = 88;
    private static final int OR = 89;

    // The kinds of faults.
    private static final int MISPLACED = 1;
    private static final int TOLD_ALREADY = 3;
    private static final int NOT_AS_TOLD = 4;
    private static final int TOO_MANY = 5;

    private final Tape tape;
    private final Parser parser;
    private final State now;
    private final State[] marks;
    private final Day day;
    private final Day trial;
    private final Choices choices;
    private final Lots lots;
    private boolean dayKnown;

    public EvenFerry() {
        River first = new River();
        tape = new Tape();
        parser = new Parser(tape, first);
        now = new State(first);
        marks = new State[MARKS];
        for (int i = 0; i < marks.length; i++) {
            marks[i] = new State(first);
        }
        day = new Day(first, MOST_PERSONS);
        trial = new Day(first, MOST_DRAWN);
        choices = new Choices();
        lots = new Lots();
    }

    public int feed(long a, long b, long c) {
        tape.append(a);
        tape.append(b);
        tape.append(c);
        return tape.length;
    }

    public int river() {
        tape.cut();
        int fault = parser.read(new River());
        tape.length = 0;
        if (fault == 0) {
            now.start(parser.river);
            forget();
        }
        return fault;
    }

    public int person(int person, int what) {
        River river = now.river;
        if (!isPerson(person)) {
            return NONE;
        }
        switch (what) {
            case 0: return get(river.people.sides, person);
            case 1: return get(river.people.times, person);
            case 2: return get(river.people.weights, person);
            case 3: return get(river.costs, person);
            case 4: return get(river.kinds, person) - PLAIN;
            case 5: return get(river.people.counts, person);
            default: return NONE;
        }
    }

    public boolean use(int law) {
        if (law < NONE || law >= now.river.laws) {
            return false;
        }
        now.law = law;
        forget();
        return true;
    }

    public int rings() {
        knowDay();
        return day.ringings;
    }

    public int ring(int i, int what) {
        knowDay();
        if (i < 0 || i >= day.ringings) {
            return NONE;
        }
        switch (what) {
            case 0: return get(day.ringMinutes, i);
            case 1: return get(day.fromLeft, i);
            case 2: return get(day.fromRight, i);
            default: return NONE;
        }
    }

    public int waits(int person, int what) {
        knowDay();
        if (!isPerson(person)) {
            return NONE;
        }
        switch (what) {
            case 0: return day.waitOf(person);
            case 1: return get(day.goesBy, person);
            default: return NONE;
        }
    }

    public int all(int what) {
        knowDay();
        switch (what) {
            case 0: return day.costWithout(NONE);
            case 1: return day.longestWait();
            case 2: return nightBits();
            default: return NONE;
        }
    }

    public int bank(int side, int minute, int what) {
        if (side < 0 || side >= BANKS || !isMinute(minute)) {
            return NONE;
        }
        knowDay();
        switch (what) {
            case 0: return heads(side, minute);
            case 1: return together(now.river.people.counts, side, minute);
            case 2: return together(now.river.people.weights, side, minute);
            default: return NONE;
        }
    }

    public int send(int minute, int what) {
        if (!isMinute(minute) || what < 0 || what > 1) {
            return NONE;
        }
        beginTrial(now.law);
        trial.run(minute);
        trial.come(minute);
        if (trial.wouldRing(minute)) {
            return what == 0 ? 0 : NONE;
        }
        for (int number = 1; number <= MOST_SENT; number++) {
            for (int side = 0; side < BANKS; side++) {
                if (trial.wouldRingWith(side, number, minute)) {
                    return what == 0 ? number : side;
                }
            }
        }
        return NONE;
    }

    public int turn(int person, int minute) throws NoSuchElementException {
        knowDay();
        if (!mayTurn(person, minute)) {
            throw new NoSuchElementException("no turner who waits then");
        }
        return gainByTurning(person, minute);
    }

    public int asks(int minute) {
        knowDay();
        int who = NONE;
        int most = 0;
        for (int person = 0; person < now.river.people.size; person++) {
            if (mayTurn(person, minute)) {
                int gain = gainByTurning(person, minute);
                if (who == NONE || gain > most) {
                    who = person;
                    most = gain;
                }
            }
        }
        return who;
    }

    public int choice(int what) {
        choices.weigh(now, trial);
        switch (what) {
            case 0: return get(choices.costs, choices.cheapest);
            case 1: return choices.cheapest;
            default: return NONE;
        }
    }

    public int chosen(int sides) {
        River river = now.river;
        if (sides < 0 || sides >= 1 << river.choosers) {
            return NONE;
        }
        choices.seat(river, sides);
        trial.begin(river, now.law, river.people, choices.sides);
        trial.run(MINUTES);
        return trial.costWithout(NONE);
    }

    public int rests() {
        choices.weigh(now, trial);
        return choices.resting;
    }

    public int rest(int i) {
        choices.weigh(now, trial);
        return i < 0 || i >= choices.resting ? NONE : get(choices.restBits, i);
    }

    public int tell(int minute) {
        return now.addTold(minute) ? now.tolds : NONE;
    }

    public boolean clear() {
        now.tolds = 0;
        return true;
    }

    public int judged(int what) {
        if (what < 0 || what > 1) {
            return NONE;
        }
        beginTrial(now.law);
        int minute = trial.misjudged(now.told, now.tolds);
        if (minute == NONE || what == 0) {
            return minute;
        }
        return now.isTold(minute) ? 1 : 2;
    }

    public long likely(int n, int what) {
        if (n < 1 || n > MOST_LEVEL || what < 0 || what > 1) {
            return NONE;
        }
        long above = levels(n, false);
        long below = power((long) now.river.second * now.river.second, n / 2);
        return lowest(what == 0 ? above : below, above, below);
    }

    public long mean(int n, int what) {
        if (n < 2 || n > MOST_LEVEL || what < 0 || what > 1) {
            return NONE;
        }
        long above = levels(n, true);
        long below = levels(n, false);
        return lowest(what == 0 ? above : below, above, below);
    }

    public long came(int k) {
        return k < 1 || k > MOST_PAIRS ? NONE : orders(k);
    }

    public int lots(int seed, int days, int what) {
        if (seed < 0 || seed > MOST_SEED || days < 1 || days > MOST_DAYS || what < 0 || what > 4) {
            return NONE;
        }
        if (!lots.isKnown(seed, days)) {
            lots.go(now, trial, seed, days);
        }
        switch (what) {
            case 0: return lots.ringings;
            case 1: return lots.comers;
            case 2: return lots.waited;
            case 3: return lots.nights;
            default: return lots.longest;
        }
    }

    public int best() {
        int first = NONE;
        int least = 0;
        for (int law = 0; law < now.river.laws; law++) {
            beginTrial(law);
            trial.run(MINUTES);
            int cost = trial.costWithout(NONE);
            if (first == NONE || cost < least) {
                first = law;
                least = cost;
            }
        }
        return first;
    }

    public boolean mark(int mark, boolean back) {
        if (mark < 0 || mark >= marks.length) {
            return false;
        }
        if (!back) {
            marks[mark].take(now);
            marks[mark].laid = true;
            return true;
        }
        if (!marks[mark].laid) {
            return false;
        }
        now.take(marks[mark]);
        forget();
        return true;
    }

    public int count(int what) {
        River river = now.river;
        switch (what) {
            case 0: return river.people.size;
            case 1: return river.laws;
            case 2: return now.law;
            case 3: return river.room;
            case 4: return river.trip;
            case 5: return river.boats;
            case 6: return river.choosers;
            case 7: return now.tolds;
            case 8: return tape.length;
            default: return NONE;
        }
    }

    private static int get(int[] row, int place) {
        return place >= 0 && place < row.length ? row[place] : 0;
    }

    private static void set(int[] row, int place, int value) {
        if (place >= 0 && place < row.length) {
            row[place] = value;
        }
    }

    private static boolean isMinute(int minute) {
        return minute >= 0 && minute < MINUTES;
    }

    private boolean isPerson(int person) {
        return person >= 0 && person < now.river.people.size;
    }

    /** What was found out of the river and the law before does not hold any more. */
    private void forget() {
        dayKnown = false;
        choices.known = false;
        lots.known = false;
    }

    private void knowDay() {
        if (!dayKnown) {
            River river = now.river;
            day.begin(river, now.law, river.people, river.people.sides);
            day.run(MINUTES);
            dayKnown = true;
        }
    }

    private void beginTrial(int law) {
        River river = now.river;
        trial.begin(river, law, river.people, river.people.sides);
    }

    private int nightBits() {
        int bits = 0;
        for (int person = 0; person < now.river.people.size; person++) {
            if (get(day.goesBy, person) == NONE) {
                bits |= 1 << person;
            }
        }
        return bits;
    }

    private boolean waitsAt(int person, int side, int minute) {
        return get(now.river.people.sides, person) == side && day.isWaitingBehind(person, minute);
    }

    private int heads(int side, int minute) {
        int sum = 0;
        for (int person = 0; person < now.river.people.size; person++) {
            sum += waitsAt(person, side, minute) ? 1 : 0;
        }
        return sum;
    }

    private int together(int[] row, int side, int minute) {
        int sum = 0;
        for (int person = 0; person < now.river.people.size; person++) {
            sum += waitsAt(person, side, minute) ? get(row, person) : 0;
        }
        return sum;
    }

    private boolean mayTurn(int person, int minute) {
        return isPerson(person) && isMinute(minute) && get(now.river.kinds, person) == TURNER
                && day.isWaitingBehind(person, minute);
    }

    private int gainByTurning(int person, int minute) {
        beginTrial(now.law);
        trial.letGoHome(person, minute);
        trial.run(MINUTES);
        return day.costWithout(person) - trial.costWithout(person);
    }

    /**
     * The chance to be level by the nth, or what each such n adds to the mean, above the second number of side to
     * the power of n (of n - 1 if n is odd, for it can't be level then): all stays far below 2 to the 63.
     */
    private long levels(int n, boolean weighted) {
        long second = now.river.second;
        long pair = now.river.first * (second - now.river.first);
        long pairs = 1;
        long sum = 0;
        for (int k = 1; k <= n / 2; k++) {
            pairs *= pair;
            long paths = orders(k) * pairs;
            sum = sum * second * second + (weighted ? 2 * k * paths : paths);
        }
        return sum;
    }

    /** Twice the Catalan number of k - 1: all but the first and the last step keep to one side. */
    private static long orders(int k) {
        long catalan = 1;
        for (int j = 0; j < k - 1; j++) {
            catalan = catalan * 2 * (2 * j + 1) / (j + 2);
        }
        return 2 * catalan;
    }

    private static long power(long base, int times) {
        long product = 1;
        for (int i = 0; i < times; i++) {
            product *= base;
        }
        return product;
    }

    private static long lowest(long part, long above, long below) {
        long a = above;
        long b = below;
        // Numbers below 2 to the 63 need far fewer steps.
        for (int step = 0; step < 200 && b != 0; step++) {
            long left = a % b;
            a = b;
            b = left;
        }
        return a == 0 ? part : part / a;
    }

    /** The signs that were fed, and the tokens that they are cut into. */
    private static final class Tape {
        final char[] signs = new char[MOST_SIGNS];
        final int[] kinds = new int[MOST_SIGNS + 1];
        final int[] places = new int[MOST_SIGNS + 1];
        int length;
        int tokens;

        void append(long eight) {
            for (int shift = 56; shift >= 0; shift -= 8) {
                int sign = (int) (eight >>> shift) & 255;
                boolean fits = sign == 10 || sign >= 32 && sign <= 126;
                if (fits && length >= 0 && length < signs.length) {
                    signs[length] = (char) sign;
                    length++;
                }
            }
        }

        void cut() {
            tokens = 0;
            int end;
            for (int from = 0; from < length; from = Math.max(from + 1, end)) {
                char sign = signAt(from);
                end = from + 1;
                if (isLetter(sign)) {
                    end = endOfWord(from);
                    add(end - from > WORD_SIGNS ? BAD : wordKind(from, end), from);
                } else if (isDigit(sign)) {
                    end = endOfNumber(from);
                    add(end - from > NUMBER_SIGNS ? BAD : NUMBER, from);
                } else if (sign != 10 && sign != 32) {
                    add(SIGNS.indexOf(sign) >= 0 ? sign : BAD, from);
                }
            }
            add(END, length);
        }

        private void add(int kind, int place) {
            set(kinds, tokens, kind);
            set(places, tokens, place);
            tokens++;
        }

        private char signAt(int place) {
            return place >= 0 && place < length && place < signs.length ? signs[place] : 32;
        }

        private static boolean isLetter(char sign) {
            return sign >= 'a' && sign <= 'z';
        }

        private static boolean isDigit(char sign) {
            return sign >= '0' && sign <= '9';
        }

        private int endOfWord(int from) {
            int end = from;
            while (end < length && isLetter(signAt(end))) {
                end++;
            }
            return end;
        }

        private int endOfNumber(int from) {
            int end = from;
            while (end < length && isDigit(signAt(end))) {
                end++;
            }
            return end;
        }

        private int wordKind(int from, int end) {
            for (int word = 0; word < WORDS.length() / WORD_SIGNS; word++) {
                if (isWord(word, from, end)) {
                    return FIRST_WORD + word;
                }
            }
            return NAME;
        }

        private boolean isWord(int word, int from, int end) {
            for (int i = 0; i < WORD_SIGNS; i++) {
                int place = word * WORD_SIGNS + i;
                char sign = from + i < end ? signAt(from + i) : 32;
                if (place < 0 || place >= WORDS.length() || WORDS.charAt(place) != sign) {
                    return false;
                }
            }
            return true;
        }

        /** Eight letters of five bits: two names are alike if their keys are. */
        long nameKey(int token) {
            int from = get(places, token);
            long key = 0;
            for (int i = from; i < from + WORD_SIGNS && isLetter(signAt(i)); i++) {
                key = key * 32 + (signAt(i) - 'a' + 1);
            }
            return key;
        }

        int numberValue(int token) {
            int from = get(places, token);
            int value = 0;
            for (int i = from; i < from + NUMBER_SIGNS && isDigit(signAt(i)); i++) {
                value = value * 10 + (signAt(i) - '0');
            }
            return value;
        }
    }

    /** Reads the tokens of a tape as a river; it stops at the first wrong one. */
    private static final class Parser {
        private static final int COMPARING = 1;
        private static final int LEVELS = 4;
        private static final int MOST_WITHIN = 5;

        final Tape tape;
        final long[] names = new long[MOST_PERSONS];
        final int[] code = new int[MOST_SIGNS];
        River river;
        int written;
        int token;
        int fault;
        int toldOnce;

        Parser(Tape tape, River river) {
            this.tape = tape;
            this.river = river;
        }

        int read(River into) {
            river = into;
            written = 0;
            token = 0;
            fault = 0;
            toldOnce = 0;
            for (int k = 0; k <= MOST_SIGNS && fault == 0 && kind() != END; k++) {
                line();
            }
            river.code = Arrays.copyOf(code, Math.max(0, Math.min(written, code.length)));
            return fault;
        }

        private int kind() {
            return token >= 0 && token < tape.kinds.length ? tape.kinds[token] : END;
        }

        private void step() {
            if (token < tape.tokens - 1) {
                token++;
            }
        }

        private void wrong(int kind) {
            if (fault == 0 && token >= 0 && token < tape.places.length) {
                fault = kind + 16 * tape.places[token];
            }
        }

        private void expect(int kind) {
            if (kind() == kind) {
                step();
            } else {
                wrong(MISPLACED);
            }
        }

        private int number(int least, int most) {
            if (kind() != NUMBER) {
                wrong(MISPLACED);
                return least;
            }
            int value = tape.numberValue(token);
            if (value < least || value > most) {
                wrong(NOT_AS_TOLD);
                return least;
            }
            step();
            return value;
        }

        private void line() {
            int word = kind();
            if (word >= ROOM && word <= COME) {
                lineToldOnce(word);
            } else if (word == LAW) {
                lawLine();
            } else if (word == PERSON) {
                personLine();
            } else {
                wrong(MISPLACED);
            }
            expect(';');
        }

        private void lineToldOnce(int word) {
            int bit = 1 << word - ROOM;
            if ((toldOnce & bit) != 0) {
                wrong(TOLD_ALREADY);
                return;
            }
            toldOnce |= bit;
            step();
            switch (word) {
                case ROOM: river.room = number(1, 40); break;
                case TRIP: river.trip = number(0, 99); break;
                case BOATS: river.boats = number(1, 2); break;
                case SIDE:
                    river.first = number(1, 8);
                    expect(OF);
                    river.second = number(river.first + 1, 9);
                    break;
                default: river.come = number(0, 1000); break;
            }
        }

        private void personLine() {
            if (river.people.size >= MOST_PERSONS) {
                wrong(TOO_MANY);
                return;
            }
            step();
            name();
            int side = sideWord();
            expect(AT);
            int time = number(0, MINUTES - 1);
            expect(WEIGHT);
            int weight = number(0, 999);
            expect(COST);
            int cost = number(0, 99);
            int kind = kindWord();
            if (fault == 0) {
                river.addPerson(kind, side, time, weight, cost);
            }
        }

        private void name() {
            if (kind() != NAME) {
                wrong(MISPLACED);
                return;
            }
            long key = tape.nameKey(token);
            int told = river.people.size;
            for (int i = 0; i < told && i < names.length; i++) {
                if (names[i] == key) {
                    wrong(TOLD_ALREADY);
                    return;
                }
            }
            if (told >= 0 && told < names.length) {
                names[told] = key;
            }
            step();
        }

        private int sideWord() {
            int word = kind();
            if (word == LEFT || word == RIGHT) {
                step();
                return word - LEFT;
            }
            wrong(MISPLACED);
            return 0;
        }

        private int kindWord() {
            int word = kind();
            if (word < PLAIN || word > CHOOSER) {
                wrong(MISPLACED);
            } else if (word == CHOOSER && river.choosers >= MOST_CHOOSERS) {
                wrong(TOO_MANY);
            } else {
                step();
            }
            return word;
        }

        private void lawLine() {
            if (river.laws >= MOST_LAWS) {
                wrong(TOO_MANY);
                return;
            }
            step();
            chain(0, 0);
            river.endLaw(written);
        }

        private void write(int value) {
            set(code, written, value);
            written++;
        }

        /** Parts joined by the signs of a level, the looser ones outside: and or, < =, + -, *. */
        private void chain(int level, int within) {
            if (level >= LEVELS) {
                part(within);
                return;
            }
            chain(level + 1, within);
            int most = level == COMPARING ? 1 : MOST_SIGNS;
            for (int k = 0; k < most && fault == 0 && levelOf(kind()) == level; k++) {
                int sign = kind();
                step();
                chain(level + 1, within);
                write(-sign);
            }
        }

        private static int levelOf(int kind) {
            switch (kind) {
                case AND: case OR: return 0;
                case '<': case '=': return COMPARING;
                case '+': case '-': return 2;
                case '*': return 3;
                default: return NONE;
            }
        }

        private void part(int within) {
            int kind = kind();
            boolean fact = kind >= LEFT && kind <= MINUTE;
            if (kind != NUMBER && kind != NOT && kind != '(' && !fact) {
                wrong(MISPLACED);
                return;
            }
            if (within >= MOST_WITHIN) {
                wrong(TOO_MANY);
                return;
            }
            int number = kind == NUMBER ? tape.numberValue(token) : 0;
            step();
            if (kind == NUMBER) {
                write(number);
            } else if (kind == NOT) {
                part(within + 1);
                write(-NOT);
            } else if (fact) {
                write(-kind);
                river.timedLaws |= kind == WAIT || kind == MINUTE ? 1 << river.laws : 0;
            } else {
                chain(0, within + 1);
                expect(')');
            }
        }
    }

    /** What a text told; its people are numbered as told, its laws are written with the signs behind their parts. */
    private static final class River {
        final Crowd people = new Crowd(MOST_PERSONS);
        final int[] costs = new int[MOST_PERSONS];
        final int[] kinds = new int[MOST_PERSONS];
        final int[] chooserPersons = new int[MOST_CHOOSERS];
        final int[] lawStarts = new int[MOST_LAWS + 1];
        int[] code = new int[0];
        int room = 40;
        int trip = 10;
        int boats = 1;
        int first = 1;
        int second = 2;
        int come = 50;
        int choosers;
        int laws;
        int timedLaws;

        void addPerson(int kind, int side, int time, int weight, int cost) {
            int person = people.size;
            set(kinds, person, kind);
            set(costs, person, cost);
            people.add(time, side, weight, countOf(kind));
            if (kind == CHOOSER) {
                set(chooserPersons, choosers, person);
                choosers++;
            }
        }

        private static int countOf(int kind) {
            switch (kind) {
                case DOG: return 0;
                case CHILD: return 1;
                case CART: return 4;
                default: return PLAIN_COUNT;
            }
        }

        void endLaw(int end) {
            laws++;
            set(lawStarts, laws, end);
        }

        /** Whether a law can change from minute to minute though nobody comes or goes. */
        boolean isTimed(int law) {
            return law >= 0 && (timedLaws >> law & 1) != 0;
        }

        /** The stack has room for what laws of so few within one another hold back. */
        int lawValue(int law, int[] facts, int[] stack) {
            if (law == NONE) {
                return get(facts, 0) == get(facts, 1) && 0 < get(facts, 0) ? 1 : 0;
            }
            int top = 0;
            int end = Math.min(get(lawStarts, law + 1), code.length);
            for (int i = Math.max(0, get(lawStarts, law)); i < end && top < stack.length; i++) {
                int value = code[i];
                int fact = -value - LEFT;
                if (value >= 0) {
                    stack[top] = value;
                    top++;
                } else if (fact >= 0 && fact < facts.length) {
                    stack[top] = facts[fact];
                    top++;
                } else if (value == -NOT && top >= 1) {
                    stack[top - 1] = stack[top - 1] == 0 ? 1 : 0;
                } else if (top >= 2) {
                    top--;
                    stack[top - 1] = joined(-value, stack[top - 1], stack[top]);
                }
            }
            return get(stack, 0);
        }

        private static int joined(int sign, int a, int b) {
            switch (sign) {
                case '+': return a + b;
                case '-': return a - b;
                case '*': return a * b;
                case '<': return a < b ? 1 : 0;
                case '=': return a == b ? 1 : 0;
                case AND: return a != 0 && b != 0 ? 1 : 0;
                default: return a != 0 || b != 0 ? 1 : 0;
            }
        }
    }

    /** People who come in a day, and the order in which they do. */
    private static final class Crowd {
        final int[] times;
        final int[] sides;
        final int[] weights;
        final int[] counts;
        final int[] order;
        int size;

        Crowd(int most) {
            int length = Math.max(0, most);
            times = new int[length];
            sides = new int[length];
            weights = new int[length];
            counts = new int[length];
            order = new int[length];
        }

        void add(int time, int side, int weight, int count) {
            if (size >= order.length) {
                return;
            }
            set(times, size, time);
            set(sides, size, side);
            set(weights, size, weight);
            set(counts, size, count);
            int place = size;
            while (place > 0 && get(times, get(order, place - 1)) > time) {
                set(order, place, get(order, place - 1));
                place--;
            }
            set(order, place, size);
            size++;
        }

        int timeAt(int place) {
            return get(times, get(order, place));
        }
    }

    /** Those who wait on one side, who came first first; guests are plain ones who are only thought of. */
    private static final class Bank {
        final int[] row;
        int head;
        int tail;
        int counts;
        int load;
        int guests;

        Bank(int most) {
            row = new int[Math.max(0, most)];
        }

        void empty() {
            head = 0;
            tail = 0;
            counts = 0;
            load = 0;
            guests = 0;
        }

        void join(int person, Crowd crowd) {
            set(row, tail, person);
            tail++;
            counts += get(crowd.counts, person);
            load += get(crowd.weights, person);
        }

        void leaveFirst(Crowd crowd) {
            int person = get(row, head);
            head++;
            counts -= get(crowd.counts, person);
            load -= get(crowd.weights, person);
        }

        /** Those ahead of the one who leaves move up by one, so that the row stays without gaps. */
        void leave(int person, Crowd crowd) {
            for (int place = tail - 1; place >= head; place--) {
                if (get(row, place) == person) {
                    for (int ahead = place; ahead > head; ahead--) {
                        set(row, ahead, get(row, ahead - 1));
                    }
                    set(row, head, person);
                    leaveFirst(crowd);
                    return;
                }
            }
        }

        int size() {
            return tail - head + guests;
        }

        int countWithGuests() {
            return counts + guests * PLAIN_COUNT;
        }

        int loadWithGuests() {
            return load + guests * PLAIN_WEIGHT;
        }
    }

    /** Goes through a day of a crowd, by a law of a river, and holds how it went. */
    private static final class Day {
        final Bank left;
        final Bank right;
        final int[] goesAt;
        final int[] goesBy;
        final int[] ringMinutes;
        final int[] fromLeft;
        final int[] fromRight;
        final int[] boatBack = new int[2];
        final int[] facts = new int[6];
        final int[] stack = new int[32];
        int ringings;
        int next;
        River river;
        Crowd crowd;
        int[] sides;
        int law;
        int leaver;
        int leaving;

        Day(River river, int most) {
            int length = Math.max(0, most);
            left = new Bank(length);
            right = new Bank(length);
            goesAt = new int[length];
            goesBy = new int[length];
            ringMinutes = new int[length];
            fromLeft = new int[length];
            fromRight = new int[length];
            this.river = river;
            this.crowd = river.people;
            this.sides = river.people.sides;
        }

        void begin(River river, int law, Crowd crowd, int[] sides) {
            this.river = river;
            this.law = law;
            this.crowd = crowd;
            this.sides = sides;
            for (int person = 0; person < crowd.size; person++) {
                set(goesAt, person, MINUTES);
                set(goesBy, person, NONE);
            }
            set(boatBack, 0, 0);
            set(boatBack, 1, 0);
            left.empty();
            right.empty();
            ringings = 0;
            next = 0;
            leaver = NONE;
            leaving = MINUTES;
        }

        /** Nothing is left to happen behind a minute's ringings, so who goes home then is away when the next begins. */
        void letGoHome(int person, int minute) {
            leaver = person;
            leaving = minute + 1;
        }

        void run(int until) {
            for (int minute = 0; minute < until; minute = Math.max(minute + 1, soonest(minute))) {
                if (minute == leaving) {
                    left.leave(leaver, crowd);
                    right.leave(leaver, crowd);
                }
                come(minute);
                for (int k = 0; k < crowd.size && wouldRing(minute); k++) {
                    goOver(minute);
                }
            }
        }

        /** The next minute in which it may ring though it does not, or not any more, in this one. */
        int soonest(int minute) {
            int soon = leaving > minute ? leaving : MINUTES;
            if (next < crowd.size) {
                soon = Math.min(soon, crowd.timeAt(next));
            }
            boolean boatThere = false;
            for (int boat = 0; boat < river.boats; boat++) {
                int back = get(boatBack, boat);
                boatThere = boatThere || back <= minute;
                soon = back > minute ? Math.min(soon, back) : soon;
            }
            boolean watched = boatThere && river.isTimed(law) && left.size() + right.size() > 0;
            return watched ? firstHolding(minute + 1, soon) : soon;
        }

        /** The first minute, or the last one given, in which the law holds though nobody comes or goes till then. */
        private int firstHolding(int from, int until) {
            gatherFacts(from);
            for (int minute = from; minute < until; minute++) {
                if (river.lawValue(law, facts, stack) != 0) {
                    return minute;
                }
                set(facts, 4, get(facts, 4) + 1);
                set(facts, 5, minute + 1);
            }
            return until;
        }

        void come(int minute) {
            while (next < crowd.size && crowd.timeAt(next) <= minute) {
                int person = get(crowd.order, next);
                bankOf(get(sides, person)).join(person, crowd);
                next++;
            }
        }

        private Bank bankOf(int side) {
            return side == 0 ? left : right;
        }

        boolean wouldRing(int minute) {
            if (left.size() + right.size() == 0 || freeBoat(minute) == NONE) {
                return false;
            }
            gatherFacts(minute);
            return river.lawValue(law, facts, stack) != 0;
        }

        boolean wouldRingWith(int side, int guests, int minute) {
            Bank bank = bankOf(side);
            bank.guests = guests;
            boolean would = wouldRing(minute);
            bank.guests = 0;
            return would;
        }

        private int freeBoat(int minute) {
            for (int boat = 0; boat < river.boats; boat++) {
                if (get(boatBack, boat) <= minute) {
                    return boat;
                }
            }
            return NONE;
        }

        /** In the order of their words, as the laws are written. */
        private void gatherFacts(int minute) {
            set(facts, 0, left.countWithGuests());
            set(facts, 1, right.countWithGuests());
            set(facts, 2, left.loadWithGuests());
            set(facts, 3, right.loadWithGuests());
            set(facts, 4, minute - Math.min(earliest(left, minute), earliest(right, minute)));
            set(facts, 5, minute);
        }

        private int earliest(Bank bank, int minute) {
            boolean somebody = bank.head >= 0 && bank.head < bank.tail && bank.head < bank.row.length;
            int first = somebody ? bank.row[bank.head] : NONE;
            return first >= 0 && first < crowd.times.length ? crowd.times[first] : minute;
        }

        void goOver(int minute) {
            set(boatBack, freeBoat(minute), minute + river.trip);
            set(ringMinutes, ringings, minute);
            set(fromLeft, ringings, board(left, minute));
            set(fromRight, ringings, board(right, minute));
            ringings++;
        }

        private int board(Bank bank, int minute) {
            int number = Math.min(river.room, bank.tail - bank.head);
            for (int k = 0; k < number; k++) {
                int person = get(bank.row, bank.head);
                set(goesAt, person, minute);
                set(goesBy, person, ringings);
                bank.leaveFirst(crowd);
            }
            return number;
        }

        /** The first minute in which a ringing is told though it would not ring, or none though it would. */
        int misjudged(int[] told, int tolds) {
            int place = 0;
            int soon;
            for (int minute = 0; minute < MINUTES; minute = Math.max(minute + 1, soon)) {
                come(minute);
                boolean isTold = place < tolds && get(told, place) == minute;
                if (isTold != wouldRing(minute)) {
                    return minute;
                }
                soon = soonest(minute);
                if (isTold) {
                    goOver(minute);
                    place++;
                    soon = minute + 1;
                }
                if (place < tolds) {
                    soon = Math.min(soon, get(told, place));
                }
            }
            return NONE;
        }

        boolean isWaitingBehind(int person, int minute) {
            return get(crowd.times, person) <= minute && get(goesAt, person) > minute;
        }

        int waitOf(int person) {
            return get(goesAt, person) - get(crowd.times, person);
        }

        int longestWait() {
            int longest = 0;
            for (int person = 0; person < crowd.size; person++) {
                longest = Math.max(longest, waitOf(person));
            }
            return longest;
        }

        int costOf(int person) {
            return get(river.costs, person) * waitOf(person);
        }

        int costWithout(int one) {
            int sum = 0;
            for (int person = 0; person < crowd.size; person++) {
                sum += person == one ? 0 : costOf(person);
            }
            return sum;
        }
    }

    /** The day by each choice of sides: what it costs all and each chooser, and which are at rest. */
    private static final class Choices {
        final int[] costs = new int[MOST_CHOICES];
        final int[] ownCosts = new int[MOST_CHOICES * MOST_CHOOSERS];
        final int[] restBits = new int[MOST_CHOICES];
        final int[] sides = new int[MOST_PERSONS];
        int cheapest;
        int resting;
        boolean known;

        void weigh(State state, Day trial) {
            if (known) {
                return;
            }
            River river = state.river;
            int number = Math.min(MOST_CHOICES, 1 << river.choosers);
            for (int bits = 0; bits < number; bits++) {
                seat(river, bits);
                trial.begin(river, state.law, river.people, sides);
                trial.run(MINUTES);
                set(costs, bits, trial.costWithout(NONE));
                for (int i = 0; i < river.choosers; i++) {
                    set(ownCosts, bits * MOST_CHOOSERS + i, trial.costOf(get(river.chooserPersons, i)));
                }
            }
            findCheapest(number);
            findResting(number, river.choosers);
            known = true;
        }

        void seat(River river, int bits) {
            for (int person = 0; person < river.people.size; person++) {
                set(sides, person, get(river.people.sides, person));
            }
            for (int i = 0; i < river.choosers; i++) {
                set(sides, get(river.chooserPersons, i), bits >> i & 1);
            }
        }

        private void findCheapest(int number) {
            cheapest = 0;
            for (int bits = 1; bits < number; bits++) {
                if (get(costs, bits) < get(costs, cheapest)) {
                    cheapest = bits;
                }
            }
        }

        private void findResting(int number, int choosers) {
            resting = 0;
            for (int bits = 0; bits < number; bits++) {
                if (isAtRest(bits, choosers)) {
                    set(restBits, resting, bits);
                    resting++;
                }
            }
        }

        private boolean isAtRest(int bits, int choosers) {
            for (int i = 0; i < choosers; i++) {
                int other = bits ^ 1 << i;
                if (get(ownCosts, other * MOST_CHOOSERS + i) < get(ownCosts, bits * MOST_CHOOSERS + i)) {
                    return false;
                }
            }
            return true;
        }
    }

    /** Days of drawn people, added up; the last ones asked for are kept. */
    private static final class Lots {
        final Crowd crowd = new Crowd(MOST_DRAWN);
        boolean known;
        int knownSeed;
        int knownDays;
        int ringings;
        int comers;
        int waited;
        int nights;
        int longest;
        long drawn;

        boolean isKnown(int seed, int days) {
            return known && knownSeed == seed && knownDays == days;
        }

        void go(State state, Day trial, int seed, int days) {
            drawn = seed;
            ringings = 0;
            comers = 0;
            waited = 0;
            nights = 0;
            longest = 0;
            for (int day = 0; day < days; day++) {
                drawCrowd(state.river);
                trial.begin(state.river, state.law, crowd, crowd.sides);
                trial.run(MINUTES);
                addUp(trial);
            }
            known = true;
            knownSeed = seed;
            knownDays = days;
        }

        private void drawCrowd(River river) {
            crowd.size = 0;
            for (int minute = 0; minute < MINUTES && crowd.size < MOST_DRAWN; minute++) {
                if (draw(1000) < river.come) {
                    int side = draw(river.second) < river.first ? 0 : 1;
                    crowd.add(minute, side, PLAIN_WEIGHT, PLAIN_COUNT);
                }
            }
        }

        private int draw(int below) {
            drawn = (drawn * 1103515245L + 12345L) % 2147483648L;
            return below > 0 ? (int) (drawn / 65536L % below) : 0;
        }

        private void addUp(Day trial) {
            ringings += trial.ringings;
            comers += crowd.size;
            for (int person = 0; person < crowd.size; person++) {
                int wait = trial.waitOf(person);
                waited += wait;
                longest = Math.max(longest, wait);
                nights += get(trial.goesBy, person) == NONE ? 1 : 0;
            }
        }
    }

    /** The river, the law that goes and the told ringings, now or on a mark that has been laid. */
    private static final class State {
        final int[] told = new int[MOST_TOLD];
        River river;
        int law = NONE;
        int tolds;
        boolean laid;

        State(River river) {
            this.river = river;
        }

        void start(River next) {
            river = next;
            law = next.laws > 0 ? 0 : NONE;
            tolds = 0;
        }

        void take(State other) {
            river = other.river;
            law = other.law;
            tolds = other.tolds;
            for (int i = 0; i < tolds; i++) {
                set(told, i, get(other.told, i));
            }
        }

        boolean addTold(int minute) {
            int last = tolds == 0 ? NONE : get(told, tolds - 1);
            if (!isMinute(minute) || minute <= last || tolds >= MOST_TOLD) {
                return false;
            }
            set(told, tolds, minute);
            tolds++;
            return true;
        }

        boolean isTold(int minute) {
            for (int i = 0; i < tolds; i++) {
                if (get(told, i) == minute) {
                    return true;
                }
            }
            return false;
        }
    }
}
