/** Promise 3: which fault a wrong text has, and what a right one changes. */
final class FaultTest {
    private static final String ONE = " left at 1 weight 2 cost 3 ";
    private static final String LAWS = "law 1;law 1;law 1;law 1;";

    public static void main(String[] args) {
        places();
        leastOfTheFirst();
        canNotStandThere();
        nameTold();
        wordsTold();
        numbersNotAsTold();
        oneTooMany();
        allStays();
        riverFromThenOn();
        Check.end();
    }

    private static String people(int number, String kind) {
        StringBuilder text = new StringBuilder();
        for (int i = 0; i < number; i++) {
            text.append("person p").append((char) ('a' + i)).append(ONE).append(kind).append(";");
        }
        return text.toString();
    }

    private static void places() {
        Check.says(3, "FAULTS, kind + 16 * the place (from 0) of a token, the end being one at the text's length");
        Check.fault("$", 1, 0);
        Check.fault(" \n$", 1, 2);
        Check.fault("room 0;", 4, 5);
        Check.fault("room", 1, 4);
        Check.fault("room ", 1, 5);
        Check.fault("room \n\n 7 \n", 1, 11);
        Check.fault("law 1" + " ".repeat(994), 1, 999);
        Check.fault("law 1" + " ".repeat(995), 1, 1000);
        Check.fault(" ".repeat(999) + "$", 1, 999);
        Check.fault(" ".repeat(996) + "room", 1, 1000);
    }

    private static void leastOfTheFirst() {
        Check.says(3, "of the first token from the left that is wrong the least");
        Check.fault("room 41;$", 4, 5);
        Check.fault("room 1;room $", 3, 7);
        Check.fault(LAWS + "law $", 5, LAWS.length());
        Check.fault(people(16, "dog") + "person $", 5, people(16, "dog").length());
        // What can't stand where it is, is that ahead of all else.
        Check.fault("room 1;trip room 1;", 1, 12);
        Check.fault("room 1 99;", 1, 7);
        Check.fault("person a" + ONE + "dog;person b a;", 1, 48);
        Check.fault("law left 1 law", 1, 9);
        Check.fault(LAWS + "room law", 1, LAWS.length() + 5);
        Check.fault(people(16, "dog") + "room person", 1, people(16, "dog").length() + 5);
        String eight = people(8, "chooser");
        Check.fault(eight + "person q left chooser", 1, eight.length() + 14);
        Check.fault("law (((((;", 1, 9);
        Check.fault("law ((((()", 1, 9);
        Check.fault("law (((((and", 1, 9);
        Check.fault("law (((((<", 1, 9);
        Check.fault("law (((((name", 1, 9);
        Check.fault("law (((((12345", 1, 9);
        Check.fault("law (((((", 1, 9);
        Check.fault("law not not not not not;", 1, 23);
    }

    private static void canNotStandThere() {
        Check.says(3, "1 it is none, or can't stand there");
        Check.fault("ferry 1;", 1, 0);
        Check.fault("left;", 1, 0);
        Check.fault("5;", 1, 0);
        Check.fault("of 1;", 1, 0);
        Check.fault("room 1:", 1, 6);
        Check.fault("room 1 room 2;", 1, 7);
        Check.fault("room (1);", 1, 5);
        Check.fault("room 1 law", 1, 7);
        Check.fault("law side;", 1, 4);
        Check.fault("law name;", 1, 4);
        Check.fault("law dog;", 1, 4);
        Check.fault("law room;", 1, 4);
        Check.fault("law cost;", 1, 4);
        Check.fault("law 1 left;", 1, 6);
        Check.fault("person a left at 5 weight 7 cost 8 left", 1, 35);
        Check.fault("person a left at 5 weight 7 cost 8 turner 1", 1, 42);
    }

    private static void nameTold() {
        Check.says(3, "3 a NAME told already");
        Check.fault("person a" + ONE + "dog;person b" + ONE + "dog;person a" + ONE, 3, 85);
        Check.fault("person a" + ONE + "dog;person a", 3, 46);
        Check.fault("person a" + ONE + "dog;person a $", 3, 46);
    }

    private static void wordsTold() {
        Check.says(3, "the words room, trip, boats, side, come a second time");
        String[] once = {"room 1;", "trip 1;", "boats 1;", "side 1 of 2;", "come 1;"};
        String all = String.join("", once);
        Check.ferry(all + "law 1;law 1;");
        for (String line : once) {
            String word = line.substring(0, line.indexOf(' '));
            Check.fault(line + "law 1;" + line, 3, line.length() + 6);
            Check.fault(all + word, 3, all.length());
            Check.fault(line + word + " 9999;", 3, line.length());
            Check.fault(line + word + " $", 3, line.length());
        }
    }

    private static void numbersNotAsTold() {
        Check.says(3, "4 a NUMBER that is not as told");
        Check.fault("room 9999;", 4, 5);
        Check.fault("room 0000$", 4, 5);
        Check.fault("trip 100;", 4, 5);
        Check.fault("boats 0;", 4, 6);
        Check.fault("side 9 of 1;", 4, 5);
        Check.fault("side 3 of 3;", 4, 10);
        Check.fault("come 1001;", 4, 5);
        Check.fault("person a left at 1440 weight 9999 cost 9999 dog;", 4, 17);
        Check.fault("person a left at 1439 weight 1000 cost 9999 dog;", 4, 29);
        Check.fault("person a left at 1439 weight 999 cost 100 dog;", 4, 38);
        // In a law each number may stand.
        Check.ferry("law 0;law 9999;");
    }

    private static void oneTooMany() {
        Check.says(3, "5 one too many: the words law of a fifth, person of a 17th, chooser of a ninth");
        Check.ferry(LAWS);
        Check.fault(LAWS + " law", 5, LAWS.length() + 1);
        Check.fault(LAWS + "law 0;", 5, LAWS.length());
        String sixteen = people(16, "dog");
        Check.ferry(sixteen);
        Check.fault(sixteen + "person", 5, sixteen.length());
        Check.fault(sixteen + "person pa" + ONE + "dog;", 5, sixteen.length());
        String nine = people(8, "chooser") + "person q" + ONE;
        Check.ferry(people(8, "chooser"));
        Check.fault(nine + "chooser;", 5, nine.length());
        Check.fault(nine + "chooser", 5, nine.length());
        Check.ferry(nine + "turner;");
        Check.says(3, "not, or a PART, within 5 others");
        Check.ferry("law not not not not 1;");
        Check.fault("law not not not not not 1;", 5, 24);
        Check.fault("law not not not not not not 1;", 5, 24);
        Check.ferry("law ((((1))));");
        Check.fault("law (((((1)))));", 5, 9);
        Check.fault("law (((((left)))));", 5, 9);
        Check.fault("law (((((not 1", 5, 9);
        Check.fault("law ((((((1", 5, 9);
    }

    private static void allStays() {
        Check.says(3, "0, or its FAULT (all stays then)");
        EvenFerry x = Check.ferry("room 7;trip 8;boats 2;side 1 of 3;come 0;law 1;law minute=4;person a" + ONE + "chooser;");
        x.use(1);
        x.tell(5);
        x.mark(2, false);
        String wrong = "room 3;trip 2;boats 1;side 1 of 2;come 9;law 1;person a" + ONE + "dog;room 9;";
        for (int i = 0; i < 2; i++) {
            Check.due("river()", Check.read(x, wrong), 3 + 16 * (wrong.length() - 7));
            Check.counts(x, 1, 2, 1, 7, 8, 2, 1, 1, 0);
            Check.due("person(0, 4)", x.person(0, 4), 5);
            Check.due("ring(0, 0)", x.ring(0, 0), 4);
            Check.due("choice(1)", x.choice(1), 0);
            Check.due("likely(2, 1)", x.likely(2, 1), 9);
            Check.due("lots(1, 1, 1)", x.lots(1, 1, 1), 0);
            Check.due("mark(2, true)", x.mark(2, true), true);
        }
        Check.due("river() of a right text", Check.read(x, "room 3;"), 0);
        Check.due("count(3)", x.count(3), 3);
    }

    private static void riverFromThenOn() {
        Check.says(3, "Without a FAULT it is the RIVER from then on");
        EvenFerry x = Check.ferry("room 7;trip 8;boats 2;law 1;law 2;person a" + ONE + "chooser;");
        Check.due("rings()", x.rings(), 1);
        Check.due("rests()", x.rests(), 2);
        Check.due("river()", Check.read(x, "room 6;law 0;person b right at 3 weight 9 cost 1 dog;"), 0);
        Check.counts(x, 1, 1, 0, 6, 10, 1, 0, 0, 0);
        Check.due("person(0, 0)", x.person(0, 0), 1);
        Check.due("rings()", x.rings(), 0);
        Check.due("rests()", x.rests(), 1);
        Check.due("river() of nothing", x.river(), 0);
        Check.counts(x, 0, 0, -1, 40, 10, 1, 0, 0, 0);
        Check.says(3, "LAW 0 goes (without one: left = right and 0 < left)");
        String pair = "person a" + ONE + "plain;person b right at 9 weight 1 cost 1 plain;";
        EvenFerry y = Check.ferry("law minute=3;law minute=5;" + pair);
        y.use(1);
        Check.due("river()", Check.read(y, "law minute=30;law minute=50;" + pair), 0);
        Check.due("count(2)", y.count(2), 0);
        Check.due("ring(0, 0)", y.ring(0, 0), 30);
        y.use(1);
        Check.due("river() without laws", Check.read(y, pair), 0);
        Check.due("count(2)", y.count(2), -1);
        Check.due("ring(0, 0)", y.ring(0, 0), 9);
        Check.due("rings() of children: 0 is less than 1", Check.ferry(pair.replace("plain", "child")).rings(), 1);
        Check.due("rings() of dogs: 0 is not less than 0", Check.ferry(pair.replace("plain", "dog")).rings(), 0);
        Check.says(3, "no ringing is told; MARKS stay");
        EvenFerry z = Check.ferry("room 9;law 1;" + pair);
        z.tell(3);
        z.mark(0, false);
        Check.due("river()", Check.read(z, "room 8;"), 0);
        Check.due("count(7)", z.count(7), 0);
        Check.due("tell(0)", z.tell(0), 1);
        Check.due("mark(0, true)", z.mark(0, true), true);
        Check.counts(z, 2, 1, 0, 9, 10, 1, 0, 1, 0);
        Check.due("mark(1, true)", z.mark(1, true), false);
    }
}
