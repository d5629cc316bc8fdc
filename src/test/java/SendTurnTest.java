import java.util.NoSuchElementException;

/** Promises 11 to 13: how many to send so that it goes now, and what one who turns back may ask. */
final class SendTurnTest {
    private static final int[] OTHERS = {Integer.MIN_VALUE, -1, Integer.MAX_VALUE};

    public static void main(String[] args) {
        leastNumber();
        plainOnes();
        lastOfAll();
        oneBank();
        ringsInThatMinute();
        leftIfEither();
        sends();
        otherSends();
        goesHome();
        goesHomeFromTheMiddle();
        lessCost();
        noTurns();
        asked();
        notAsked();
        Check.end();
    }

    private static void send(EvenFerry x, int minute, int number, int bank) {
        Check.due("send(" + minute + ", 0)", x.send(minute, 0), number);
        Check.due("send(" + minute + ", 1)", x.send(minute, 1), bank);
    }

    private static void leastNumber() {
        Check.says(11, "SEND, in a minute: the least number (0 to 40)");
        String one = People.plain("a", "right", 10);
        send(Check.ferry("law 1;" + one), 10, 0, -1);
        send(Check.ferry("law 0<left;" + one), 10, 1, 0);
        send(Check.ferry("law 9<left+right;" + one), 10, 4, 0);
        send(Check.ferry("law left=80;" + one), 10, 40, 0);
        send(Check.ferry("law left=82;" + one), 10, -1, -1);
        send(Check.ferry("law right=82;" + one), 10, 40, 1);
        send(Check.ferry("law right=84;" + one), 10, -1, -1);
        // The lesser number, though it is on the right.
        EvenFerry lesser = Check.ferry("law left=6 or right=4;" + one);
        send(lesser, 5, 2, 1);
        send(lesser, 20, 1, 1);
        // Not the first that holds of many, but the least.
        send(Check.ferry("law left=4 or left=10 or left=2;" + one), 10, 1, 0);
    }

    private static void plainOnes() {
        Check.says(11, "of plain ones of weight 70");
        String one = People.person("a", "right", 10, 1, 1, "plain");
        send(Check.ferry("law left=2;" + one), 10, 1, 0);
        send(Check.ferry("law left=1;" + one), 10, -1, -1);
        send(Check.ferry("law lload=70;" + one), 10, 1, 0);
        send(Check.ferry("law lload=2800;" + one), 10, 40, 0);
        send(Check.ferry("law lload=2870;" + one), 10, -1, -1);
        send(Check.ferry("law rload=71;" + one), 10, 1, 1);
        send(Check.ferry("law rload=71;" + one), 9, -1, -1);
    }

    private static void lastOfAll() {
        Check.says(11, "who come last of all to one bank in that minute");
        String one = People.plain("a", "right", 10);
        // Those told for the minute are there already.
        send(Check.ferry("law left=2 and right=2;" + one), 10, 1, 0);
        send(Check.ferry("law left=2 and right=2;" + one), 9, -1, -1);
        // Who is sent has waited 0, and the one ahead longer.
        EvenFerry wait = Check.ferry("law wait=0 and left=6;" + one);
        send(wait, 5, 3, 0);
        send(wait, 10, 3, 0);
        send(wait, 11, -1, -1);
        EvenFerry seven = Check.ferry("law wait=7 and left=6;" + one);
        send(seven, 17, 3, 0);
        send(seven, 16, -1, -1);
        send(seven, 18, -1, -1);
        send(Check.ferry("law wait=7 and right=6;" + one), 17, 2, 1);
        // They come ahead of that minute's ringings alone, not earlier.
        send(Check.ferry("law minute=9 and left=2;" + one), 10, -1, -1);
    }

    private static void oneBank() {
        Check.says(11, "to one bank in that minute");
        EvenFerry both = Check.ferry("law left=2 and right=2;");
        send(both, 5, -1, -1);
        EvenFerry left = Check.ferry("law left=2 and right=0;");
        send(left, 5, 1, 0);
        EvenFerry right = Check.ferry("law left=0 and right=2;");
        send(right, 5, 1, 1);
    }

    private static void ringsInThatMinute() {
        Check.says(11, "by which it RINGS in that minute (all as told ahead of it)");
        String people = People.plain("a", "left", 10) + People.plain("b", "left", 12);
        EvenFerry x = Check.ferry("trip 5;law 1;" + people);
        send(x, 9, 1, 0);
        send(x, 10, 0, -1);
        // No boat is there, whoever comes.
        send(x, 11, -1, -1);
        send(x, 14, -1, -1);
        send(x, 15, 0, -1);
        send(x, 16, -1, -1);
        send(x, 19, -1, -1);
        send(x, 20, 1, 0);
        EvenFerry two = Check.ferry("trip 5;boats 2;law 1;" + people);
        send(two, 11, 1, 0);
        send(two, 12, 0, -1);
        send(two, 13, -1, -1);
        send(two, 15, 1, 0);
        send(Check.ferry("trip 0;law 1;" + people), 11, 1, 0);
        // What has gone ahead of it does not wait any more.
        EvenFerry gone = Check.ferry("trip 0;law minute=11 or left=4;" + people);
        send(gone, 10, 1, 0);
        send(gone, 11, 0, -1);
        send(gone, 12, 1, 0);
        // In the minute itself all that is told for it comes, and rings, as told.
        send(gone, 13, 1, 0);
        // Somebody must wait: 0 are enough for the law, not for the ringing.
        send(Check.ferry("law left=0 and right=0;"), 3, -1, -1);
        send(Check.ferry("law 1;"), 3, 1, 0);
        // Nothing is changed by asking.
        Check.due("rings()", x.rings(), 2);
        Check.due("ring(1, 0)", x.ring(1, 0), 15);
    }

    private static void leftIfEither() {
        Check.says(11, "left, if it can be either");
        EvenFerry x = Check.ferry("law 9<left+right;" + People.plain("a", "right", 10));
        send(x, 5, 5, 0);
        send(x, 10, 4, 0);
        send(Check.ferry("law left=4 or right=4;"), 0, 2, 0);
        send(Check.ferry("law left=4 or right=2;"), 0, 1, 1);
    }

    private static void sends() {
        Check.says(11, "SEND, what 0: how many, 1: the bank (NONE: nobody is sent)");
        EvenFerry x = Check.ferry(People.one("a", "left", 10, "cart") + People.plain("b", "right", 20)
                + People.one("c", "right", 40, "child") + People.one("d", "right", 60, "child"));
        send(x, 10, 2, 1);
        send(x, 19, 2, 1);
        send(x, 20, 1, 1);
        send(x, 60, 0, -1);
        send(Check.ferry("law minute=0 or minute=1439;"), 0, 1, 0);
        send(Check.ferry("law minute=0 or minute=1439;"), 1439, 1, 0);
    }

    private static void otherSends() {
        Check.says(11, "NONE: others, 40 do not.");
        EvenFerry x = Check.ferry("law 1;");
        send(x, 0, 1, 0);
        send(x, 1439, 1, 0);
        send(x, 1440, -1, -1);
        for (int other : OTHERS) {
            send(x, other, -1, -1);
            Check.due("send(0, " + other + ")", x.send(0, other), -1);
        }
        Check.due("send(0, 2)", x.send(0, 2), -1);
        send(Check.ferry("law 0;"), 3, -1, -1);
        EvenFerry odd = Check.ferry(People.one("a", "left", 10, "child"));
        send(odd, 10, -1, -1);
        send(odd, 9, -1, -1);
    }

    private static void turn(EvenFerry x, int person, int minute, int due) {
        String call = "turn(" + person + ", " + minute + ")";
        try {
            Check.due(call, x.turn(person, minute), due);
        } catch (NoSuchElementException e) {
            Check.due(call + " throws", true, false);
        }
    }

    private static void goesHome() {
        Check.says(12, "TURN: a turner who waits behind a minute goes home then, behind its ringings");
        EvenFerry x = Check.ferry("trip 5;person a left at 100 weight 1 cost 3 turner;"
                + "person b left at 100 weight 1 cost 2 plain;person c right at 200 weight 1 cost 5 turner;"
                + "person d right at 300 weight 1 cost 1 plain;");
        int told = 200 * 2 + 100 * 5 + 0;
        // It rings at 300; without a it would at 200, then d stays for the night.
        turn(x, 0, 100, told - (100 * 2 + 0 + 1140));
        turn(x, 0, 199, told - (100 * 2 + 0 + 1140));
        // Behind 200 and its ringings: it rings a minute later.
        turn(x, 0, 200, told - (101 * 2 + 1 * 5 + 1140));
        turn(x, 0, 298, told - (199 * 2 + 99 * 5 + 1140));
        // Gone behind 299, when d comes too: nobody goes.
        turn(x, 0, 299, told - (1340 * 2 + 1240 * 5 + 1140));
        turn(x, 2, 200, 200 * 3 + 200 * 2 + 0 - (1340 * 3 + 1340 * 2 + 1140));
        // Who goes in a minute does not wait behind it.
        Check.turnThrows(x, 0, 300);
        EvenFerry first = Check.ferry("law minute=0 or minute=9;trip 0;room 1;" + People.one("a", "left", 0, "turner")
                + People.one("b", "left", 0, "turner"));
        Check.turnThrows(first, 0, 0);
        Check.turnThrows(first, 1, 0);
        EvenFerry last = Check.ferry("law 0;" + People.one("a", "left", 1439, "turner"));
        turn(last, 0, 1439, 0);
        Check.turnThrows(last, 0, 1438);
        // Nothing is changed by asking, in the told day or in another one.
        turn(x, 0, 199, told - (100 * 2 + 0 + 1140));
        Check.due("ring(0, 0)", x.ring(0, 0), 300);
        Check.due("bank(0, 250, 0)", x.bank(0, 250, 0), 2);
        Check.due("judged(0)", x.judged(0), 300);
        Check.due("send(250, 0)", x.send(250, 0), 1);
        turn(x, 0, 199, told - (100 * 2 + 0 + 1140));
        Check.due("chosen(0)", x.chosen(0), x.all(0));
    }

    /** Others wait ahead of and behind the one who goes home: the row closes up. */
    private static void goesHomeFromTheMiddle() {
        String people = "person a left at 1 weight 10 cost 1 plain;person b left at 2 weight 20 cost 9 turner;"
                + "person c left at 3 weight 30 cost 2 plain;person d left at 4 weight 40 cost 3 plain;";
        // 50 a, 60 b, 70 c, 80 d; without b 50 a, 60 c, 70 d.
        EvenFerry x = Check.ferry("room 1;trip 10;law 49<minute;" + people);
        turn(x, 1, 20, 10 * 2 + 10 * 3);
        turn(x, 1, 50, 10 * 2 + 10 * 3);
        Check.turnThrows(x, 1, 60);
        EvenFerry loads = Check.ferry("room 1;trip 10;law lload=80 and 49<minute;" + people);
        turn(loads, 1, 60, 1439 - 60);
        turn(loads, 1, 20, 1439 - 49);
        // The longest wait is that of those who are left.
        EvenFerry waits = Check.ferry("law wait=100;" + People.one("a", "left", 0, "turner") + People.plain("b", "right", 30));
        turn(waits, 0, 50, 70 - 100);
    }

    private static void lessCost() {
        Check.says(12, "how much less COST the others have then in the whole day (it may be below 0)");
        EvenFerry below = Check.ferry("law 3<left;" + People.one("a", "left", 0, "turner") + People.plain("b", "left", 10));
        turn(below, 0, 0, -1430);
        turn(below, 0, 9, -1430);
        // What the turner itself costs does not matter, before and behind.
        EvenFerry dear = Check.ferry("law 0;" + People.person("a", "left", 5, 1, 99, "turner") + People.plain("b", "left", 10));
        turn(dear, 0, 5, 0);
        turn(dear, 0, 1439, 0);
        EvenFerry alone = Check.ferry("law 0;" + People.person("a", "left", 5, 1, 99, "turner"));
        turn(alone, 0, 5, 0);
        EvenFerry above = Check.ferry(People.plain("a", "left", 0) + People.one("b", "left", 5, "turner")
                + People.person("c", "right", 10, 1, 4, "plain"));
        turn(above, 1, 10, 1440 + 4 * 1430 - (11 + 4));
        turn(above, 1, 5, 1440 + 4 * 1430 - 10);
        turn(above, 1, 1438, 1440 + 4 * 1430 - (1439 + 4 * 1429));
        turn(above, 1, 1439, 0);
    }

    private static void noTurns() {
        EvenFerry x = Check.ferry("law minute=20;" + People.one("a", "left", 10, "turner") + People.plain("b", "left", 10)
                + People.one("c", "right", 30, "turner"));
        Check.says(12, "NoSuchElementException: others");
        turn(x, 0, 10, 0);
        turn(x, 2, 1439, 0);
        Check.turnThrows(x, 3, 15);
        Check.turnThrows(x, 2, 1440);
        for (int other : OTHERS) {
            Check.turnThrows(x, other, 15);
            Check.turnThrows(x, 0, other);
            Check.turnThrows(x, 2, other);
        }
        Check.turnThrows(new EvenFerry(), 0, 0);
        Check.says(12, "it does not wait then");
        Check.turnThrows(x, 0, 9);
        turn(x, 0, 19, 0);
        Check.turnThrows(x, 0, 20);
        Check.turnThrows(x, 0, 21);
        Check.turnThrows(x, 2, 29);
        turn(x, 2, 30, 0);
        Check.says(12, "it is no turner.");
        Check.turnThrows(x, 1, 15);
        String[] kinds = {"plain", "dog", "child", "cart", "chooser"};
        for (String kind : kinds) {
            Check.turnThrows(Check.ferry("law 0;" + People.one("a", "left", 10, kind)), 0, 15);
        }
    }

    private static void asked() {
        Check.says(13, "ASKS: the turner of those who wait behind that minute of whom it is most, of equal ones the first.");
        // Without a nobody goes by 10; without b or c the rest goes as before.
        EvenFerry x = Check.ferry("law 3<left;" + People.one("a", "left", 0, "turner") + People.one("b", "right", 5, "turner")
                + People.one("c", "right", 5, "turner") + People.plain("d", "left", 10));
        turn(x, 0, 5, -1430 - 2 * 1430);
        turn(x, 1, 5, 0);
        turn(x, 2, 5, 0);
        Check.due("asks(0)", x.asks(0), 0);
        Check.due("asks(4)", x.asks(4), 0);
        Check.due("asks(5), of equal ones the first", x.asks(5), 1);
        Check.due("asks(9)", x.asks(9), 1);
        EvenFerry alone = Check.ferry("law 0;" + People.one("a", "left", 0, "turner"));
        Check.due("asks(0)", alone.asks(0), 0);
        Check.due("asks(1439)", alone.asks(1439), 0);
        // It is below 0 of both: the one of whom it is nearer to 0.
        EvenFerry later = Check.ferry("law left=6;" + People.person("a", "left", 0, 1, 2, "turner")
                + People.person("b", "left", 0, 1, 9, "turner") + People.plain("c", "left", 100));
        turn(later, 0, 50, -(9 * 1340 + 1340));
        turn(later, 1, 50, -(2 * 1340 + 1340));
        Check.due("asks(50)", later.asks(50), 1);
        // The last one told may be the one.
        EvenFerry last = Check.ferry(People.plain("a", "left", 0) + People.one("b", "right", 5, "cart")
                + People.one("c", "left", 6, "child") + People.one("d", "left", 6, "turner"));
        turn(last, 3, 6, 0);
        Check.due("asks(6)", last.asks(6), 3);
    }

    private static void notAsked() {
        Check.says(13, "ASKS: who; NONE: others, nobody.");
        EvenFerry x = Check.ferry("law minute=20;" + People.one("a", "left", 10, "turner") + People.plain("b", "left", 5));
        Check.due("asks(9), not there yet", x.asks(9), -1);
        Check.due("asks(10)", x.asks(10), 0);
        Check.due("asks(19)", x.asks(19), 0);
        Check.due("asks(20), gone", x.asks(20), -1);
        Check.due("asks(1440)", Check.ferry("law 0;" + People.one("a", "left", 10, "turner")).asks(1440), -1);
        for (int other : OTHERS) {
            Check.due("asks(" + other + ")", x.asks(other), -1);
        }
        EvenFerry z = Check.ferry("law 0;" + People.plain("a", "left", 0) + People.one("b", "left", 1, "chooser"));
        Check.due("asks(5) without turners", z.asks(5), -1);
        Check.due("asks(0) without people", new EvenFerry().asks(0), -1);
    }
}
