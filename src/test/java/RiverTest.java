/** Promise 3: the lines of a river with their limits, and which fault a wrong text has. */
final class RiverTest {
    private static final String ONE = " left at 1 weight 2 cost 3 ";
    private static final String[] RESERVED = {"room", "trip", "boats", "side", "of", "come", "law", "person", "at", "weight",
        "cost", "left", "right", "lload", "rload", "wait", "minute", "plain", "dog", "child", "cart", "turner", "chooser",
        "not", "and", "or"};
    private static final String[] ONCE = {"room 1;", "trip 1;", "boats 1;", "side 1 of 2;", "come 1;"};

    public static void main(String[] args) {
        lines();
        room();
        trip();
        boats();
        side();
        come();
        onceEach();
        fourLaws();
        sixteenPersons();
        sidesOfPersons();
        timesOfPersons();
        weightsAndCosts();
        kinds();
        eightChoosers();
        namesAreNoOtherWords();
        namesAreNotAlike();
        Check.end();
    }

    /** So many people, the first choosers. */
    private static String people(int number, int choosers) {
        StringBuilder text = new StringBuilder();
        for (int i = 0; i < number; i++) {
            text.append("person p").append((char) ('a' + i)).append(ONE).append(i < choosers ? "chooser;" : "dog;");
        }
        return text.toString();
    }

    private static void lines() {
        Check.says(3, "RIVER: any number of room N ; trip N ; boats N ; side N of N ; come N ; law E ; "
                + "person NAME SIDE at N weight N cost N KIND ;");
        Check.counts(Check.ferry(""), 0, 0, -1, 40, 10, 1, 0, 0, 0);
        Check.counts(Check.ferry("room 5;"), 0, 0, -1, 5, 10, 1, 0, 0, 0);
        String person = "person a" + ONE + "chooser;";
        Check.counts(Check.ferry("room 5;trip 6;boats 2;side 2 of 3;come 4;law 1;" + person), 1, 1, 0, 5, 6, 2, 1);
        Check.counts(Check.ferry(person + "law 1;come 4;side 2 of 3;boats 2;trip 6;room 5;law 0;"), 1, 2, 0, 5, 6, 2, 1);
        Check.fault(";", 1, 0);
        Check.fault("room 1;;", 1, 7);
        Check.fault("room 1", 1, 6);
        Check.fault("room ;", 1, 5);
        Check.fault("room left;", 1, 5);
        Check.fault("side 1;", 1, 6);
        Check.fault("side 1 at 2;", 1, 7);
        Check.fault("side 1 2;", 1, 7);
        Check.fault("law;", 1, 3);
        Check.fault("person a at", 1, 9);
        Check.fault("person a left 5", 1, 14);
        Check.fault("person a left 5 weight 7 cost 8 dog;", 1, 14);
        Check.fault("person a left at 5 7 cost 8 dog;", 1, 19);
        Check.fault("person a left at 5 weight 7 8 dog;", 1, 28);
        Check.fault("person a left at at", 1, 17);
        Check.fault("person a left at 5 cost", 1, 19);
        Check.fault("person a left at 5 weight cost", 1, 26);
        Check.fault("person a left at 5 weight 7 8", 1, 28);
        Check.fault("person a left at 5 weight 7 cost ;", 1, 33);
        Check.fault("person a left at 5 weight 7 cost 8;", 1, 34);
        Check.fault("person a left at 5 weight 7 cost 8 turner", 1, 41);
    }

    private static void room() {
        Check.says(3, "room 1 to 40 (40)");
        Check.fault("room 0;", 4, 5);
        Check.due("count(3)", Check.ferry("room 1;").count(3), 1);
        Check.due("count(3)", Check.ferry("room 40;").count(3), 40);
        Check.fault("room 41;", 4, 5);
        Check.fault("room 9999;", 4, 5);
        Check.due("count(3) without a line", Check.ferry("trip 3;").count(3), 40);
    }

    private static void trip() {
        Check.says(3, "trip 0 to 99 (10)");
        Check.due("count(4)", Check.ferry("trip 0;").count(4), 0);
        Check.due("count(4)", Check.ferry("trip 99;").count(4), 99);
        Check.fault("trip 100;", 4, 5);
        Check.due("count(4) without a line", Check.ferry("room 3;").count(4), 10);
    }

    private static void boats() {
        Check.says(3, "boats 1 or 2 (1)");
        Check.fault("boats 0;", 4, 6);
        Check.due("count(5)", Check.ferry("boats 1;").count(5), 1);
        Check.due("count(5)", Check.ferry("boats 2;").count(5), 2);
        Check.fault("boats 3;", 4, 6);
        Check.due("count(5) without a line", Check.ferry("room 3;").count(5), 1);
    }

    /** That two come on either side is 2 times left times right above the second number twice. */
    private static void level(String text, int above, int below) {
        EvenFerry x = Check.ferry(text);
        Check.due("likely(2, 0)", x.likely(2, 0), above);
        Check.due("likely(2, 1)", x.likely(2, 1), below);
    }

    private static void side() {
        Check.says(3, "side: 1 to 8 of 2 to 9, the first less than the second one (1 of 2)");
        Check.fault("side 0 of 2;", 4, 5);
        level("side 1 of 2;", 1, 2);
        level("side 1 of 9;", 16, 81);
        level("side 8 of 9;", 16, 81);
        level("side 2 of 3;", 4, 9);
        Check.fault("side 9 of 9;", 4, 5);
        Check.fault("side 8 of 10;", 4, 10);
        Check.fault("side 1 of 1;", 4, 10);
        Check.fault("side 1 of 0;", 4, 10);
        Check.fault("side 5 of 5;", 4, 10);
        Check.fault("side 5 of 4;", 4, 10);
        level("room 3;", 1, 2);
    }

    private static void come() {
        Check.says(3, "come 0 to 1000 (50)");
        Check.due("lots(1, 50, 1)", Check.ferry("come 0;").lots(1, 50, 1), 0);
        Check.due("lots(1, 50, 1)", Check.ferry("come 1000;").lots(1, 50, 1), 50 * 300);
        Check.fault("come 1001;", 4, 5);
        EvenFerry told = Check.ferry("come 50;");
        for (int seed = 0; seed < 20; seed++) {
            int came = told.lots(seed, 20, 1);
            Check.due("lots without a line", Check.ferry("room 3;").lots(seed, 20, 1), came);
            Check.due("lots of a new object", new EvenFerry().lots(seed, 20, 1), came);
        }
    }

    private static void onceEach() {
        Check.says(3, "once each, without a line the numbers in ( )");
        EvenFerry x = Check.ferry("room 3;trip 4;boats 2;side 2 of 3;come 0;");
        Check.due("river()", Check.read(x, "law 1;"), 0);
        Check.counts(x, 0, 1, 0, 40, 10, 1);
        Check.due("likely(2, 1): nothing of the river ahead stays", x.likely(2, 1), 2);
        Check.due("lots(1, 50, 1): nothing of the river ahead stays", x.lots(1, 50, 1) > 0, true);
        for (String line : ONCE) {
            Check.ferry(line);
            Check.fault(line + line, 3, line.length());
            Check.due("river() once more", Check.read(x, line), 0);
            Check.due("river() once more", Check.read(x, line), 0);
        }
    }

    private static void fourLaws() {
        Check.says(3, "law: 4 at most, numbered as told.");
        String person = "person a" + ONE + "plain;";
        EvenFerry x = Check.ferry("law minute=10;law minute=20;" + person + "law minute=30;law minute=40;");
        Check.due("count(1)", x.count(1), 4);
        for (int law = 0; law < 4; law++) {
            Check.due("use(" + law + ")", x.use(law), true);
            Check.due("ring(0, 0)", x.ring(0, 0), 10 + 10 * law);
        }
        Check.fault("law 1;law 1;law 1;law 1;law 1;", 5, 24);
        Check.ferry("law 1;law 1;law 1;law 1;");
    }

    private static void sixteenPersons() {
        Check.says(3, "person: 16 at most, numbered as told");
        StringBuilder text = new StringBuilder();
        for (int i = 0; i < 16; i++) {
            text.append("person ").append((char) ('p' - i)).append(" left at ").append(100 - i).append(" weight 1 cost 1 dog;");
        }
        EvenFerry x = Check.ferry(text.toString());
        Check.due("count(0)", x.count(0), 16);
        for (int i = 0; i < 16; i++) {
            Check.due("person(" + i + ", 1)", x.person(i, 1), 100 - i);
        }
        Check.fault(text + "person z" + ONE + "dog;", 5, text.length());
    }

    private static void sidesOfPersons() {
        Check.says(3, "SIDE left or right");
        Check.due("person(0, 0)", Check.ferry("person a left at 1 weight 1 cost 1 dog;").person(0, 0), 0);
        Check.due("person(0, 0)", Check.ferry("person a right at 1 weight 1 cost 1 dog;").person(0, 0), 1);
        for (String word : RESERVED) {
            if (!word.equals("left") && !word.equals("right")) {
                Check.fault("person a " + word + " at 1 weight 1 cost 1 dog;", 1, 9);
            }
        }
        Check.fault("person a up at 1 weight 1 cost 1 dog;", 1, 9);
        Check.fault("person a 0 at 1 weight 1 cost 1 dog;", 1, 9);
    }

    private static void timesOfPersons() {
        Check.says(3, "at 0 to 1439");
        Check.due("person(0, 1)", Check.ferry("person a left at 0 weight 1 cost 1 dog;").person(0, 1), 0);
        Check.due("person(0, 1)", Check.ferry("person a left at 1439 weight 1 cost 1 dog;").person(0, 1), 1439);
        Check.fault("person a left at 1440 weight 1 cost 1 dog;", 4, 17);
        Check.fault("person a left at 9999 weight 1 cost 1 dog;", 4, 17);
    }

    private static void weightsAndCosts() {
        Check.says(3, "weight 0 to 999, cost 0 to 99");
        EvenFerry least = Check.ferry("person a left at 1 weight 0 cost 0 dog;");
        Check.due("person(0, 2)", least.person(0, 2), 0);
        Check.due("person(0, 3)", least.person(0, 3), 0);
        EvenFerry most = Check.ferry("person a left at 1 weight 999 cost 99 dog;");
        Check.due("person(0, 2)", most.person(0, 2), 999);
        Check.due("person(0, 3)", most.person(0, 3), 99);
        Check.fault("person a left at 1 weight 1000 cost 99 dog;", 4, 26);
        Check.fault("person a left at 1 weight 999 cost 100 dog;", 4, 35);
    }

    private static void kinds() {
        Check.says(3, "KIND plain, dog, child, cart, turner, chooser");
        String[] kinds = {"plain", "dog", "child", "cart", "turner", "chooser"};
        for (int kind = 0; kind < 6; kind++) {
            Check.due("person(0, 4)", Check.ferry("person a" + ONE + kinds[kind] + ";").person(0, 4), kind);
        }
        int place = ("person a" + ONE).length();
        for (String word : RESERVED) {
            if (!java.util.List.of(kinds).contains(word)) {
                Check.fault("person a" + ONE + word + ";", 1, place);
            }
        }
        Check.fault("person a" + ONE + "king;", 1, place);
        Check.fault("person a" + ONE + "dog cart;", 1, place + 4);
    }

    private static void eightChoosers() {
        Check.says(3, "8 choosers at most");
        EvenFerry x = Check.ferry(people(8, 8));
        Check.due("count(6)", x.count(6), 8);
        String nine = people(9, 9);
        Check.fault(nine, 5, nine.length() - "chooser;".length());
        Check.due("count(6) with others beside them", Check.ferry(people(16, 8)).count(6), 8);
    }

    private static void namesAreNoOtherWords() {
        Check.says(3, "A NAME is another WORD than room, trip, boats, side, of, come, law, person, at, weight, cost, left, "
                + "right, lload, rload, wait, minute, the KINDS, not, and, or");
        for (String word : RESERVED) {
            Check.fault("person " + word + ONE + "dog;", 1, 7);
            String shorter = word.substring(0, word.length() - 1);
            Check.ferry("person " + word + "x" + ONE + "dog;person x" + word + ONE + "dog;person " + shorter + ONE + "dog;");
        }
        Check.fault("person 5" + ONE + "dog;", 1, 7);
        Check.fault("person ;", 1, 7);
        Check.fault("person", 1, 6);
    }

    private static void namesAreNotAlike() {
        Check.says(3, "no two are alike");
        String first = "person abcdefgh" + ONE + "dog;";
        Check.fault(first + first, 3, first.length() + 7);
        Check.ferry(first + "person abcdefgi" + ONE + "dog;person bbcdefgh" + ONE + "dog;person abcdefg" + ONE + "dog;");
        Check.ferry("person a" + ONE + "dog;person aa" + ONE + "dog;person ab" + ONE + "dog;person b" + ONE + "dog;");
        String all = people(16, 0);
        String alike = all.substring(0, all.lastIndexOf("person")) + "person pa" + ONE + "dog;";
        Check.fault(alike, 3, all.lastIndexOf("person") + 7);
        EvenFerry x = Check.ferry(first);
        Check.due("river() of another with the same name", Check.read(x, first), 0);
        Check.due("river() of a fault", Check.read(x, "person zz" + ONE + "dog;$") % 16, 1);
        Check.due("river() with a name of the faulty one", Check.read(x, "person zz" + ONE + "dog;"), 0);
    }
}
