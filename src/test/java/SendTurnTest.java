/** Promises 11 to 13: how many to send so that it goes now, and what one who turns back may ask. */
final class SendTurnTest {
    public static void main(String[] args) {
        sends();
        sendsByFacts();
        sendsAndBoats();
        wrongSends();
        turns();
        turnsBelowNothing();
        turnOfTheMiddle();
        asked();
        Check.end();
    }

    private static void send(EvenFerry x, int minute, int number, int bank) {
        Check.due("send(" + minute + ", 0)", x.send(minute, 0), number);
        Check.due("send(" + minute + ", 1)", x.send(minute, 1), bank);
    }

    private static void sends() {
        EvenFerry x = Check.ferry("person a left at 10 weight 1 cost 1 cart;person b right at 20 weight 1 cost 1 plain;"
                + "person c right at 40 weight 1 cost 1 child;person d right at 60 weight 1 cost 1 child;");
        send(x, 0, -1, -1);
        send(x, 9, -1, -1);
        send(x, 10, 2, 1);
        send(x, 19, 2, 1);
        send(x, 20, 1, 1);
        send(x, 40, -1, -1);
        send(x, 60, 0, -1);
        send(x, 61, -1, -1);
        send(x, 1439, -1, -1);
        Check.due("rings() stays", x.rings(), 1);
    }

    private static void sendsByFacts() {
        String one = "person a right at 10 weight 1 cost 1 plain;";
        EvenFerry either = Check.ferry("law 9<left+right;" + one);
        send(either, 5, 5, 0);
        send(either, 10, 4, 0);
        EvenFerry right = Check.ferry("law 9<right;" + one);
        send(right, 5, 5, 1);
        send(right, 10, 4, 1);
        EvenFerry loads = Check.ferry("law lload=2800;" + one);
        send(loads, 5, 40, 0);
        EvenFerry more = Check.ferry("law lload=2870;" + one);
        send(more, 5, -1, -1);
        EvenFerry rload = Check.ferry("law rload=71;" + one);
        send(rload, 5, -1, -1);
        send(rload, 10, 1, 1);
        // Who is sent has not waited, and somebody must wait.
        EvenFerry wait = Check.ferry("law wait=0;" + one);
        send(wait, 5, 1, 0);
        send(wait, 10, 0, -1);
        EvenFerry long7 = Check.ferry("law wait=7 and left=6;" + one);
        send(long7, 17, 3, 0);
        send(long7, 18, -1, -1);
        EvenFerry minute = Check.ferry("law minute=99;" + one);
        send(minute, 99, 0, -1);
        send(minute, 98, -1, -1);
        // The lesser number goes ahead of the left bank.
        EvenFerry lesser = Check.ferry("law left=6 or right=4;" + one);
        send(lesser, 5, 2, 1);
        send(lesser, 20, 1, 1);
    }

    private static void sendsAndBoats() {
        String people = "person a left at 10 weight 1 cost 1 plain;person b left at 12 weight 1 cost 1 plain;";
        EvenFerry x = Check.ferry("trip 5;law 1;" + people);
        send(x, 9, 1, 0);
        send(x, 10, 0, -1);
        send(x, 11, -1, -1);
        send(x, 14, -1, -1);
        send(x, 15, 0, -1);
        send(x, 16, -1, -1);
        send(x, 20, 1, 0);
        EvenFerry two = Check.ferry("trip 5;boats 2;law 1;" + people);
        send(two, 11, 1, 0);
        send(two, 12, 0, -1);
        send(two, 13, -1, -1);
        send(two, 15, 1, 0);
        EvenFerry none = Check.ferry("trip 0;law 1;" + people);
        send(none, 11, 1, 0);
    }

    private static void wrongSends() {
        EvenFerry x = Check.ferry("law 1;");
        send(x, 0, 1, 0);
        send(x, 1439, 1, 0);
        send(x, -1, -1, -1);
        send(x, 1440, -1, -1);
        Check.due("send(0, 2)", x.send(0, 2), -1);
        Check.due("send(0, -1)", x.send(0, -1), -1);
    }

    private static void turn(EvenFerry x, int person, int minute, int due) {
        Check.due("turn(" + person + ", " + minute + ")", x.turn(person, minute), due);
    }

    private static void turns() {
        EvenFerry x = Check.ferry("trip 5;person a left at 100 weight 1 cost 3 turner;"
                + "person b left at 100 weight 1 cost 2 plain;person c right at 200 weight 1 cost 5 turner;"
                + "person d right at 300 weight 1 cost 1 plain;");
        // It rings at 300; without a it would at 200, then d stays for the night.
        turn(x, 0, 100, 200 * 2 + 100 * 5 + 0 - (100 * 2 + 0 + 1140));
        turn(x, 0, 199, 200 * 2 + 100 * 5 + 0 - (100 * 2 + 0 + 1140));
        turn(x, 0, 200, 200 * 2 + 100 * 5 + 0 - (101 * 2 + 1 * 5 + 1140));
        // Behind 299 it is too late: d comes to the right, and nobody goes.
        turn(x, 0, 299, 200 * 2 + 100 * 5 + 0 - (1340 * 2 + 1240 * 5 + 1140));
        // Without c nobody goes.
        turn(x, 2, 200, 200 * 3 + 200 * 2 - (1340 * 3 + 1340 * 2 + 1140));
        Check.turnThrows(x, 0, 99);
        Check.turnThrows(x, 0, 300);
        Check.turnThrows(x, 0, 1440);
        Check.turnThrows(x, 0, -1);
        Check.turnThrows(x, 1, 150);
        Check.turnThrows(x, 2, 199);
        Check.turnThrows(x, -1, 150);
        Check.turnThrows(x, 4, 150);
        Check.turnThrows(x, Integer.MAX_VALUE, 150);
        Check.turnThrows(new EvenFerry(), 0, 0);
        Check.due("rings() stays", x.ring(0, 0), 300);
    }

    private static void turnsBelowNothing() {
        EvenFerry x = Check.ferry("law 3<left;person a left at 0 weight 1 cost 1 turner;"
                + "person b left at 10 weight 1 cost 1 plain;");
        turn(x, 0, 0, -1430);
        turn(x, 0, 9, -1430);
        Check.turnThrows(x, 0, 10);
        EvenFerry last = Check.ferry("law 0;person a left at 5 weight 1 cost 1 turner;"
                + "person b left at 10 weight 1 cost 1 plain;");
        turn(last, 0, 5, 0);
        turn(last, 0, 1439, 0);
    }

    /** One behind whom others wait, and ahead of whom others do: the row closes up behind him. */
    private static void turnOfTheMiddle() {
        EvenFerry x = Check.ferry("room 1;trip 10;law 49<minute;person a left at 1 weight 10 cost 1 plain;"
                + "person b left at 2 weight 20 cost 9 turner;person c left at 3 weight 30 cost 2 plain;"
                + "person d left at 4 weight 40 cost 3 plain;");
        // 50 a, 60 b, 70 c, 80 d; without b: 50 a, 60 c, 70 d.
        turn(x, 1, 20, 10 * 2 + 10 * 3);
        turn(x, 1, 50, 10 * 2 + 10 * 3);
        Check.turnThrows(x, 1, 60);
        EvenFerry loads = Check.ferry("room 1;trip 10;law lload=80 and 49<minute;person a left at 1 weight 10 cost 1 plain;"
                + "person b left at 2 weight 20 cost 9 turner;person c left at 3 weight 30 cost 2 plain;"
                + "person d left at 4 weight 40 cost 3 plain;");
        turn(loads, 1, 60, 1439 - 60);
        turn(loads, 1, 20, 1439 - 49);
    }

    private static void asked() {
        EvenFerry x = Check.ferry("law 3<left;person a left at 0 weight 1 cost 1 turner;"
                + "person b right at 5 weight 1 cost 2 turner;person c right at 5 weight 1 cost 3 turner;"
                + "person d left at 10 weight 1 cost 1 plain;");
        // Without a nobody goes by 10; without b or c the rest goes as before.
        Check.due("asks(0)", x.asks(0), 0);
        Check.due("asks(4)", x.asks(4), 0);
        Check.due("asks(5), of equal ones the first", x.asks(5), 1);
        Check.due("asks(9)", x.asks(9), 1);
        Check.due("asks(10)", x.asks(10), -1);
        Check.due("asks(-1)", x.asks(-1), -1);
        Check.due("asks(1440)", x.asks(1440), -1);
        EvenFerry y = Check.ferry("law 3<left;person a left at 0 weight 1 cost 1 turner;");
        Check.due("asks(1439)", y.asks(1439), 0);
        EvenFerry z = Check.ferry("person a left at 0 weight 1 cost 1 plain;person b left at 1 weight 1 cost 1 chooser;");
        Check.due("asks(5) without turners", z.asks(5), -1);
        EvenFerry last = Check.ferry("person a left at 0 weight 1 cost 1 plain;person b right at 5 weight 1 cost 1 cart;"
                + "person c right at 5 weight 1 cost 1 turner;person d left at 6 weight 1 cost 1 turner;"
                + "person e right at 7 weight 1 cost 1 turner;");
        Check.due("asks(6)", last.asks(6), 2);
    }
}
