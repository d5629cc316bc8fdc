/** Promises 2 and 3: what the tape takes, what reading leaves of it, and how it is cut into tokens. */
final class TapeTest {
    private static final long BLANKS = 0x2020202020202020L;
    private static final String OTHER_SIGNS = "()<=+-*;";

    public static void main(String[] args) {
        twentyFourSigns();
        orderOfBytes();
        signsLeftOut();
        signsBeyondTheEnd();
        howManyThereAre();
        fullTape();
        takenByReading();
        asLongAsCanBe();
        blanks();
        words();
        numbers();
        signs();
        noTokens();
        Check.end();
    }

    private static EvenFerry withSigns(int number) {
        EvenFerry x = new EvenFerry();
        Check.feed(x, " ".repeat(number));
        return x;
    }

    private static void twentyFourSigns() {
        Check.says(2, "Up to 24 signs come behind the TAPE");
        EvenFerry x = new EvenFerry();
        Check.due("feed of none", x.feed(0, 0, 0), 0);
        Check.due("feed of one", x.feed(0x20, 0, 0), 1);
        Check.due("feed of 24", x.feed(BLANKS, BLANKS, BLANKS), 25);
        x.river();
        Check.feed(x, "room 1");
        Check.feed(x, "7;");
        Check.due("river() of two feeds, one behind the other", x.river(), 0);
        Check.due("count(3)", x.count(3), 17);
    }

    private static void orderOfBytes() {
        Check.says(2, "the bytes of a, b, c, of each the highest first");
        EvenFerry x = new EvenFerry();
        // "trip", " 3" and "4;": each at the low end of its number.
        Check.due("feed of trip 34;", x.feed(0x74726970L, 0x2033L, 0x343BL), 8);
        Check.due("river()", x.river(), 0);
        Check.due("count(4)", x.count(4), 34);
        Check.due("feed of 24 signs", x.feed(0x20726F6F6D203133L, 0x3B74726970203235L, 0x3B20626F61747332L), 24);
        Check.due("feed of the last", x.feed(0x3BL << 56, 0, 0), 25);
        Check.due("river()", x.river(), 0);
        Check.due("count(3)", x.count(3), 13);
        Check.due("count(4)", x.count(4), 25);
        Check.due("count(5)", x.count(5), 2);
    }

    private static void signsLeftOut() {
        Check.says(2, "others than 10 and 32 .. 126, and what is beyond 1,000, are left out");
        for (int sign = 0; sign < 256; sign++) {
            boolean kept = sign == 10 || sign >= 32 && sign <= 126;
            EvenFerry x = new EvenFerry();
            Check.due("feed of " + sign + ", lowest", x.feed(sign, 0, 0), kept ? 1 : 0);
            Check.due("feed of " + sign + ", amid", x.feed(0, (long) sign << 32, 0), kept ? 2 : 0);
            Check.due("feed of " + sign + ", highest", x.feed(0, 0, (long) sign << 56), kept ? 3 : 0);
        }
        EvenFerry y = new EvenFerry();
        Check.due("feed of ones alone", y.feed(-1, -1, -1), 0);
        Check.due("river() of a word told with others within", Check.read(y, "ro\u0000\u007Fo\tm\u00FF1\r5;"), 0);
        Check.due("count(3)", y.count(3), 15);
    }

    private static void signsBeyondTheEnd() {
        Check.says(2, "what is beyond 1,000, are left out");
        Check.due("feed from 976 to 1,000", withSigns(976).feed(BLANKS, BLANKS, BLANKS), 1000);
        Check.due("feed from 977 beyond 1,000", withSigns(977).feed(BLANKS, BLANKS, BLANKS), 1000);
        Check.due("feed from 999 beyond 1,000", withSigns(999).feed(BLANKS, BLANKS, BLANKS), 1000);
        EvenFerry x = withSigns(994);
        Check.due("feed of 6 signs and more", Check.feed(x, "room 7;$"), 1000);
        Check.due("feed behind the end", Check.feed(x, "$"), 1000);
        // ; was beyond: the text ends ahead of it.
        Check.due("river()", x.river(), 1 + 16 * 1000);
        EvenFerry y = withSigns(993);
        Check.due("feed of 7 signs and more", Check.feed(y, "room 7;$"), 1000);
        Check.due("river()", y.river(), 0);
        Check.due("count(3)", y.count(3), 7);
    }

    private static void howManyThereAre() {
        Check.says(2, "are left out: how many there are.");
        EvenFerry x = new EvenFerry();
        Check.due("feed of 3", x.feed(0x202020L, 0, 0), 3);
        Check.due("feed of 2 more, 3 left out", x.feed(0x2000200101L, 0, 0), 5);
        Check.due("feed of nothing more", x.feed(0, 1, 2), 5);
        Check.due("count(8)", x.count(8), 5);
    }

    private static void fullTape() {
        Check.says(2, "The TAPE has at most 1,000 signs, 10 and 32 .. 126");
        EvenFerry x = withSigns(2000);
        Check.due("count(8)", x.count(8), 1000);
        Check.due("river() of 1,000 blanks", x.river(), 0);
        Check.due("feed of 10, 32, 126, 127, 31, 9, 11, 255", x.feed(0x0A207E7F1F090BFFL, 0, 0), 3);
        // 10 and 32 are blanks, 126 is none.
        Check.due("river()", x.river(), 1 + 16 * 2);
    }

    private static void takenByReading() {
        Check.says(3, "what reads it takes it: it is empty then");
        EvenFerry x = new EvenFerry();
        Check.feed(x, "room 9;");
        Check.due("river()", x.river(), 0);
        Check.due("count(8) behind a river", x.count(8), 0);
        Check.due("feed begins anew", Check.feed(x, "room"), 4);
        Check.due("river() of a fault", x.river(), 1 + 16 * 4);
        Check.due("count(8) behind a fault", x.count(8), 0);
        Check.due("feed begins anew", Check.feed(x, " 8;"), 3);
        Check.due("river() of what is left of a line", x.river(), 1 + 16);
        Check.due("river() of an empty tape", x.river(), 0);
    }

    private static void asLongAsCanBe() {
        Check.says(3, "TOKENS, each as long as can be");
        Check.fault("roomtrip 5;", 1, 0);
        Check.fault("law leftand right;", 1, 4);
        Check.fault("law notleft;", 1, 4);
        Check.due("count(3) of room 12;", Check.ferry("room 12;").count(3), 12);
        Check.fault("room 123;", 4, 5);
        Check.ferry("law 123+4567;");
        Check.ferry("person atleft left at 1 weight 1 cost 1 dog;");
    }

    private static void blanks() {
        Check.says(3, "blanks (10, 32) between where one likes");
        EvenFerry x = Check.ferry("room40;trip99;boats2;side1of9;come0;law(left)=right;"
                + "person a left at0weight1cost2plain;");
        Check.counts(x, 1, 1, 0, 40, 99, 2);
        EvenFerry y = Check.ferry("\n room\n\n7 ; trip \n8\n;\nside 1\nof\n2 ; law\n( left ) = right +  1 \n;  ");
        Check.counts(y, 0, 1, 0, 7, 8);
        Check.ferry(" ");
        Check.ferry("\n");
        Check.fault("ro om 7;", 1, 0);
        Check.fault("room 1 7;", 1, 7);
        Check.fault("room 7;\n$", 1, 8);
    }

    private static void words() {
        Check.says(3, "WORDS (letters a .. z, 8 at most)");
        String rest = " left at 1 weight 1 cost 1 dog;";
        Check.ferry("person a" + rest + "person z" + rest + "person abcdefgh" + rest + "person zzzzzzzz" + rest);
        Check.fault("person abcdefghi" + rest, 1, 7);
        for (char sign : "ABRZ`{_@[".toCharArray()) {
            Check.fault("person " + sign + rest, 1, 7);
            Check.fault("person a" + sign + rest, 1, 8);
        }
        Check.fault("Room 1;", 1, 0);
        Check.fault("rOom 1;", 1, 0);
    }

    private static void numbers() {
        Check.says(3, "NUMBERS (1 to 4 digits; a letter may stand right behind)");
        Check.due("count(3) of one digit", Check.ferry("room 5;").count(3), 5);
        Check.due("count(3) of four digits", Check.ferry("room 0009;").count(3), 9);
        Check.fault("room 00009;", 1, 5);
        Check.due("likely(2, 1)", Check.ferry("side 1of 3;").likely(2, 1), 9);
        Check.ferry("law 0and 9or 1;law 9999;law 1234;law 5678and 90;");
        Check.fault("law 12345;", 1, 4);
        Check.fault("room 1/;", 1, 6);
        Check.fault("room 1:;", 1, 6);
        Check.fault("room 1.5;", 1, 6);
    }

    private static void signs() {
        Check.says(3, "the signs ( ) < = + - * ;");
        Check.ferry("law(1)<2;law 1=2;law 1+2-3*4;");
        for (char sign = 33; sign < 127; sign++) {
            boolean digitOrLetter = sign >= '0' && sign <= '9' || sign >= 'a' && sign <= 'z';
            if (!digitOrLetter && OTHER_SIGNS.indexOf(sign) < 0) {
                Check.fault("law 1" + sign + "1;", 1, 5);
                Check.fault("law " + sign + "1;", 1, 4);
                Check.fault("room 1;" + sign, 1, 7);
            }
        }
    }

    private static void noTokens() {
        Check.says(3, "All else (a longer WORD or NUMBER, too, at its first sign) is none.");
        Check.fault("room 1; abcdefghij", 1, 8);
        Check.fault("abcdefghi 1;", 1, 0);
        Check.fault("chooserss;", 1, 0);
        Check.fault("room 123456789;", 1, 5);
        Check.fault("room 99999;", 1, 5);
        Check.fault("room 00000;", 1, 5);
        Check.fault("law left+" + "a".repeat(980), 1, 9);
        Check.fault("law left+" + "9".repeat(980), 1, 9);
        Check.fault("room 12345a 1;", 1, 5);
        Check.fault("~", 1, 0);
    }
}
