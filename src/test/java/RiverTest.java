/** Promises 2 to 5 and 27: the tape, the language with its faults, people, laws and counts. */
final class RiverTest {
    private static final String ONE = " left at 1 weight 2 cost 3 ";

    public static void main(String[] args) {
        tape();
        tokens();
        numbers();
        words();
        names();
        laws();
        within();
        tooMany();
        faultKeepsAll();
        people();
        uses();
        Check.end();
    }

    private static void tape() {
        EvenFerry x = new EvenFerry();
        Check.due("feed of nothing", x.feed(0, 0, 0), 0);
        Check.due("feed(-1, -1, -1)", x.feed(-1L, -1L, -1L), 0);
        Check.due("feed of 10, 32, 126, 127, 31, 9, 13, 255", x.feed(0x0A207E7F1F090DFFL, 0, 0), 3);
        Check.due("feed of the highest first", x.feed(0x61L, 0, 0x6200000000000000L), 5);
        Check.due("count(8)", x.count(8), 5);
        // 10, 32, 126, ..: 126 is no token.
        Check.due("river()", x.river(), 1 + 16 * 2);
        Check.due("count(8) behind", x.count(8), 0);
        Check.feed(x, "law 1");
        Check.due("the bytes' order", x.feed(0x3B20L, 0, 0), 7);
        Check.due("river()", x.river(), 0);
        Check.due("count(1)", x.count(1), 1);
        long blanks = 0x2020202020202020L;
        for (int i = 1; i <= 41; i++) {
            Check.due("feed of 24 blanks", x.feed(blanks, blanks, blanks), 24 * i);
        }
        Check.due("feed to the end", x.feed(blanks, 0x6C6177203B3B3B3BL, blanks), 1000);
        Check.due("feed behind the end", x.feed(blanks, blanks, blanks), 1000);
        Check.due("river() of 1,000 signs", x.river(), 1 + 16 * (992 + 4));
    }

    private static void tokens() {
        Check.ferry("");
        Check.ferry(" \n \n");
        Check.fault("\n  ?", 1, 3);
        Check.ferry("room40;trip99;boats2;side1of9;come0;law left=right and 0<left;");
        Check.ferry("\nroom\n40\n;\nside 8of 9 ;");
        Check.ferry("law 5and 4or 0;law not left;law(1)and(0);");
        Check.fault("room 00001;", 1, 5);
        Check.ferry("room 0001;");
        Check.ferry("person abcdefgh" + ONE + "dog;");
        Check.fault("person abcdefghi" + ONE + "dog;", 1, 7);
        Check.fault("Room 1;", 1, 0);
        Check.fault("room 1:", 1, 6);
        Check.fault("room 1", 1, 6);
        Check.fault("room 1  ", 1, 8);
        Check.fault("room", 1, 4);
        Check.fault("room ;", 1, 5);
        Check.fault("rooms 1;", 1, 0);
        Check.fault("roo 1;", 1, 0);
        Check.fault(";", 1, 0);
        Check.fault("room 1;;", 1, 7);
        Check.fault("5;", 1, 0);
        Check.fault("left;", 1, 0);
        Check.fault("room 1 2;", 1, 7);
        Check.fault("room 12345;", 1, 5);
        Check.fault("room 99999 $;", 1, 5);
        Check.fault("law 1>2;", 1, 5);
        Check.fault("law 1!;", 1, 5);
    }

    private static void numbers() {
        Check.fault("room 41;", 4, 5);
        Check.fault("room 0;", 4, 5);
        Check.ferry("room 1;");
        Check.fault("trip 100;", 4, 5);
        Check.ferry("trip 0;");
        Check.fault("boats 0;", 4, 6);
        Check.fault("boats 3;", 4, 6);
        Check.fault("side 0 of 2;", 4, 5);
        Check.fault("side 9 of 9;", 4, 5);
        Check.fault("side 1 of 1;", 4, 10);
        Check.fault("side 1 of 10;", 4, 10);
        Check.fault("side 5 of 4;", 4, 10);
        Check.fault("side 5 of 5;", 4, 10);
        Check.ferry("side 8 of 9;");
        Check.fault("side 1 at 2;", 1, 7);
        Check.fault("side 1 2;", 1, 7);
        Check.fault("come 1001;", 4, 5);
        Check.ferry("come 1000;");
        Check.fault("person a left at 1440 weight 2 cost 3 dog;", 4, 17);
        Check.ferry("person a left at 1439 weight 999 cost 99 dog;person b right at 0 weight 0 cost 0 dog;");
        Check.fault("person a left at 1 weight 1000 cost 3 dog;", 4, 26);
        Check.fault("person a left at 1 weight 999 cost 100 dog;", 4, 35);
        Check.ferry("law 9999;law 0;");
    }

    private static void words() {
        String[] once = {"room 1;", "trip 1;", "boats 1;", "side 1 of 2;", "come 1;"};
        for (String line : once) {
            Check.fault(line + "law 1;" + line, 3, line.length() + 6);
            Check.fault(line + line.substring(0, 3), 1, line.length());
        }
        Check.fault("room 1;room;", 3, 7);
        Check.fault("room 1; room", 3, 8);
        Check.fault("room 1;room 99;", 3, 7);
        Check.ferry("law 1;law 1;");
    }

    private static void names() {
        String[] reserved = {"room", "trip", "boats", "side", "of", "come", "law", "person", "at", "weight", "cost",
            "left", "right", "lload", "rload", "wait", "minute", "plain", "dog", "child", "cart", "turner", "chooser",
            "not", "and", "or"};
        for (String word : reserved) {
            Check.fault("person " + word + ONE + "dog;", 1, 7);
            String longer = word + "x";
            Check.ferry("person " + longer + ONE + "dog;person x" + word + ONE + "cart;");
        }
        Check.fault("person 5" + ONE + "dog;", 1, 7);
        Check.fault("person a" + ONE + "dog;person b" + ONE + "dog;person a" + ONE, 3, 85);
        Check.ferry("person a" + ONE + "dog;person aa" + ONE + "dog;person ab" + ONE + "dog;person b" + ONE + "dog;");
        Check.fault("person abcdefgh" + ONE + "dog;person abcdefgh" + ONE + "dog;", 3, 53);
        Check.ferry("person abcdefgh" + ONE + "dog;person abcdefgg" + ONE + "dog;person bbcdefgh" + ONE + "dog;");
        Check.fault("person a at", 1, 9);
        Check.fault("person a left 5", 1, 14);
        Check.fault("person a left at at", 1, 17);
        Check.fault("person a left at 5 cost", 1, 19);
        Check.fault("person a left at 5 weight 7 8", 1, 28);
        Check.fault("person a left at 5 weight 7 cost 8 left", 1, 35);
        Check.fault("person a left at 5 weight 7 cost 8 turner", 1, 41);
        Check.fault("person a left at 5 weight 7 cost 8 turner chooser", 1, 42);
    }

    private static void laws() {
        Check.fault("law ;", 1, 4);
        Check.fault("law", 1, 3);
        Check.fault("law 1 1;", 1, 6);
        Check.fault("law 1+;", 1, 6);
        Check.fault("law +1;", 1, 4);
        Check.fault("law -1;", 1, 4);
        Check.fault("law 1=2=3;", 1, 7);
        Check.fault("law 1<2=3;", 1, 7);
        Check.ferry("law (1<2)=3;law 1=(2<3);law 1<2 and 2<3 or 3=4;");
        Check.fault("law 1<2 and 2<3<4;", 1, 15);
        Check.fault("law and 1;", 1, 4);
        Check.fault("law 1 and;", 1, 9);
        Check.fault("law 1 not 1;", 1, 6);
        Check.fault("law not;", 1, 7);
        Check.ferry("law not not 1;law 1 and not 0;law 2*not 3+not(4);");
        Check.fault("law ();", 1, 5);
        Check.fault("law (1;", 1, 6);
        Check.fault("law 1);", 1, 5);
        Check.fault("law (1));", 1, 7);
        Check.fault("law (1", 1, 6);
        Check.fault("law name;", 1, 4);
        Check.fault("law side;", 1, 4);
        Check.fault("law 1 law", 1, 6);
        Check.ferry("law left+right-lload*rload<wait*minute;");
    }

    /** No part lies within 5 of not and ( ). */
    private static void within() {
        Check.ferry("law ((((1))));law not not not not 1;law not(not(left));law (not(not 1))+((((2))));");
        Check.fault("law (((((1)))));", 5, 9);
        Check.fault("law (((((left)))));", 5, 9);
        Check.fault("law ((((((1", 5, 9);
        Check.fault("law (((((not 1", 5, 9);
        Check.fault("law (((((;", 1, 9);
        Check.fault("law ((((()", 1, 9);
        Check.fault("law (((((and", 1, 9);
        Check.fault("law (((((", 1, 9);
        Check.fault("law (((((name", 1, 9);
        Check.fault("law (((((12345", 1, 9);
        Check.fault("law ((((1+(2", 5, 11);
        Check.fault("law not not not not not 1;", 5, 24);
        Check.fault("law not not not not not not 1;", 5, 24);
        Check.fault("law not(not(not 1))and not(not(not 1", 5, 16);
    }

    private static void tooMany() {
        Check.ferry("law 1;law 1;law 1;law 1;");
        Check.fault("law 1;law 1;law 1;law 1;law 1;", 5, 24);
        Check.fault("law 1;law 1;law 1;law 1; law", 5, 25);
        StringBuilder text = new StringBuilder();
        for (int i = 0; i < 16; i++) {
            text.append("person p").append((char) ('a' + i)).append(ONE).append(i < 8 ? "chooser;" : "dog;");
        }
        EvenFerry x = Check.ferry(text.toString());
        Check.due("count(0)", x.count(0), 16);
        Check.due("count(6)", x.count(6), 8);
        Check.due("all(2)", x.all(2), 65535);
        Check.fault(text + "person pz" + ONE + "dog;", 5, text.length());
        Check.fault(text + "person pa" + ONE + "dog;", 5, text.length());
        String nine = text.substring(0, text.indexOf("person pi")) + "person pi" + ONE;
        Check.fault(nine + "chooser;", 5, nine.length());
        Check.ferry(nine + "turner;");
    }

    private static void faultKeepsAll() {
        EvenFerry x = Check.ferry("room 7;trip 8;boats 2;law 1;law 2;person a" + ONE + "chooser;");
        x.use(1);
        x.tell(5);
        Check.due("river()", Check.read(x, "room 3;trip 2;law 1;person a" + ONE + "dog;room 9;"), 3 + 16 * 59);
        int[] counts = {1, 2, 1, 7, 8, 2, 1, 1, 0};
        for (int what = 0; what < counts.length; what++) {
            Check.due("count(" + what + ") behind a fault", x.count(what), counts[what]);
        }
        Check.due("person(0, 4)", x.person(0, 4), 5);
        Check.due("river() of nothing", x.river(), 0);
        int[] news = {0, 0, -1, 40, 10, 1, 0, 0, 0};
        for (int what = 0; what < news.length; what++) {
            Check.due("count(" + what + ") behind a new river", x.count(what), news[what]);
        }
        Check.due("count(-1)", x.count(-1), -1);
        Check.due("count(9)", x.count(9), -1);
    }

    private static void people() {
        EvenFerry x = Check.ferry("person a left at 9 weight 1 cost 2 plain;person b right at 8 weight 3 cost 4 dog;"
                + "person c left at 7 weight 5 cost 6 child;person d right at 6 weight 7 cost 8 cart;"
                + "person e left at 5 weight 9 cost 10 turner;person f right at 4 weight 11 cost 12 chooser;");
        int[][] due = {{0, 9, 1, 2, 0, 2}, {1, 8, 3, 4, 1, 0}, {0, 7, 5, 6, 2, 1}, {1, 6, 7, 8, 3, 4},
            {0, 5, 9, 10, 4, 2}, {1, 4, 11, 12, 5, 2}};
        for (int p = 0; p < 6; p++) {
            for (int what = 0; what < 6; what++) {
                Check.due("person(" + p + ", " + what + ")", x.person(p, what), due[p][what]);
            }
            Check.due("person(" + p + ", 6)", x.person(p, 6), -1);
            Check.due("person(" + p + ", -1)", x.person(p, -1), -1);
        }
        Check.due("person(6, 0)", x.person(6, 0), -1);
        Check.due("person(-1, 0)", x.person(-1, 0), -1);
        Check.due("person(min, 0)", x.person(Integer.MIN_VALUE, 0), -1);
        Check.due("person(max, 0)", x.person(Integer.MAX_VALUE, 0), -1);
    }

    private static void uses() {
        EvenFerry x = Check.ferry("law 1;law 0;");
        Check.due("count(2)", x.count(2), 0);
        Check.due("use(1)", x.use(1), true);
        Check.due("count(2)", x.count(2), 1);
        Check.due("use(2)", x.use(2), false);
        Check.due("use(-2)", x.use(-2), false);
        Check.due("use(max)", x.use(Integer.MAX_VALUE), false);
        Check.due("count(2)", x.count(2), 1);
        Check.due("use(-1)", x.use(-1), true);
        Check.due("count(2)", x.count(2), -1);
        EvenFerry y = new EvenFerry();
        Check.due("use(0) without laws", y.use(0), false);
        Check.due("use(-1) without laws", y.use(-1), true);
    }
}
