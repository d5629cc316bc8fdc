/** Promise 3: how laws are told, and what comes of them in the day (promises 5 to 8). */
final class LawTest {
    public static void main(String[] args) {
        fromTheLeft();
        comparisons();
        sums();
        products();
        parts();
        within();
        counts();
        loads();
        waits();
        minutes();
        oneOrNothing();
        whatIsSo();
        wrapping();
        Check.end();
    }

    /** The first ringing by a law: one on the left from 10 on, a cart on the right from 20, a child on the left from 30. */
    private static int firstRing(String law) {
        EvenFerry x = Check.ferry("law " + law + ";" + People.person("a", "left", 10, 30, 1, "plain")
                + People.person("b", "right", 20, 41, 1, "cart") + People.person("c", "left", 30, 5, 1, "child"));
        return x.ring(0, 0);
    }

    private static void holds(String law) {
        Check.due("ring(0, 0) by " + law, firstRing(law), 10);
    }

    private static void holdsNot(String law) {
        Check.due("ring(0, 0) by " + law, firstRing(law), -1);
    }

    private static void fromTheLeft() {
        Check.says(3, "E: TEST { and TEST or or TEST }, from the left");
        holdsNot("1 or 0 and 0");
        holds("0 and 0 or 1");
        holds("1 or 1 and 1 or 0 and 1");
        holdsNot("1 or 1 or 1 and 0");
        holdsNot("1 and 0");
        holdsNot("0 or 0");
        holds("1 and 1");
        holds("0 or 1");
        holds("1 and 1=1 and 2<3 and 0-1");
        Check.fault("law 1 and;", 1, 9);
        Check.fault("law and 1;", 1, 4);
        Check.fault("law or 1;", 1, 4);
        Check.fault("law 1 and or 1;", 1, 10);
        Check.fault("law 1 1;", 1, 6);
    }

    private static void comparisons() {
        Check.says(3, "TEST: SUM, or SUM < SUM, or SUM = SUM");
        holds("7");
        holdsNot("0");
        holds("1<2");
        holdsNot("2<2");
        holdsNot("3<2");
        holds("2=2");
        holdsNot("2=3");
        holds("1+1<1*3");
        holds("2 and 1<2 or 2=3");
        Check.fault("law 1=2=3;", 1, 7);
        Check.fault("law 1<2=3;", 1, 7);
        Check.fault("law 1=2<3;", 1, 7);
        Check.fault("law 1<2<3;", 1, 7);
        Check.fault("law 1<2 and 2<3<4;", 1, 15);
        Check.fault("law 1<;", 1, 6);
        Check.fault("law <1;", 1, 4);
        Check.fault("law =1;", 1, 4);
        holds("(0<1)=1");
        holds("1=(1<2)");
    }

    private static void sums() {
        Check.says(3, "SUM: PRODUCT { + or - PRODUCT }");
        holds("9-3-2=4");
        holds("9-3+2=8");
        holds("1+2+3+4=10");
        holds("3-5<0");
        Check.fault("law 1+;", 1, 6);
        Check.fault("law +1;", 1, 4);
        Check.fault("law -1;", 1, 4);
        Check.fault("law 1--1;", 1, 6);
        Check.fault("law 1=-1;", 1, 6);
    }

    private static void products() {
        Check.says(3, "PRODUCT: PART { * PART }");
        holds("2+3*4=14");
        holds("2*3+4=10");
        holds("20-3*2=14");
        holds("2*3*4=24");
        holdsNot("5*0");
        Check.fault("law 1*;", 1, 6);
        Check.fault("law *1;", 1, 4);
        Check.fault("law 1**1;", 1, 6);
    }

    private static void parts() {
        Check.says(3, "PART: a NUMBER, a fact, not PART, ( E )");
        holds("left and not right and not rload and lload and minute");
        holds("not 1+1");
        holds("not 2=0");
        holds("not not 5=1");
        holds("2*not 0+not(4)=2");
        holds("(2+3)*4=20");
        holds("20-(3-2)=19");
        holds("0 and(0 or 1)or(1)");
        holdsNot("0 and (0 or 1)");
        Check.fault("law not;", 1, 7);
        Check.fault("law not and 1;", 1, 8);
        Check.fault("law not +1;", 1, 8);
        Check.fault("law 1 not 1;", 1, 6);
        Check.fault("law ();", 1, 5);
        Check.fault("law (1;", 1, 6);
        Check.fault("law (1", 1, 6);
        Check.fault("law 1);", 1, 5);
        Check.fault("law (1));", 1, 7);
        Check.fault("law (1 1);", 1, 7);
        Check.fault("law ;", 1, 4);
        Check.fault("law", 1, 3);
    }

    private static void within() {
        Check.says(3, "no PART lies within 5 of not and ( )");
        holds("((((1))))");
        holds("not not not not 1");
        holds("not(not(left))");
        holds("not(not(left+0))+((((2))))");
        holds("((((1)+1)+1)+1)=4 and ((((1))))");
        Check.fault("law (((((1)))));", 5, 9);
        Check.fault("law (((((left)))));", 5, 9);
        Check.fault("law ((((1+(2", 5, 11);
        Check.fault("law ((((1*not 2", 5, 14);
        Check.fault("law not not not not not 1;", 5, 24);
        Check.fault("law (not(1)and not(1+((2", 5, 23);
        Check.fault("law not(not(not 1))and not(not(not 1", 5, 16);
        Check.fault("law " + "(".repeat(996), 5, 9);
        Check.fault("law " + "not ".repeat(249), 5, 24);
    }

    private static void counts() {
        Check.says(3, "left, right (COUNTS of those who wait there)");
        Check.due("left", firstRing("left=2"), 10);
        Check.due("left and a child", firstRing("left=3"), 30);
        Check.due("right, a cart", firstRing("right=4"), 20);
        Check.due("right, nobody yet", firstRing("right=0"), 10);
        Check.due("left, one who went", firstRing("left=1 and right=0"), -1);
        EvenFerry dog = Check.ferry("law left=0 and right=0;" + People.one("a", "left", 5, "dog"));
        Check.due("left of a dog", dog.ring(0, 0), 5);
        // Who is over does not wait on the other side.
        EvenFerry gone = Check.ferry("trip 0;law minute=5 or(0<right);" + People.plain("a", "left", 5));
        Check.due("rings()", gone.rings(), 1);
    }

    private static void loads() {
        Check.says(3, "lload, rload (their weights, together)");
        Check.due("lload of one", firstRing("lload=30"), 10);
        Check.due("lload of two", firstRing("lload=35"), 30);
        Check.due("rload", firstRing("rload=41"), 20);
        Check.due("rload of nobody", firstRing("rload=0"), 10);
        EvenFerry most = Check.ferry("law lload=7992;" + People.plains(8, "left", 3).replace("70", "999"));
        Check.due("lload of eight times 999", most.ring(0, 0), 3);
    }

    private static void waits() {
        Check.says(3, "wait (how long the one has waited who has waited longest)");
        Check.due("wait of the first", firstRing("wait=0"), 10);
        Check.due("wait of the first on the left", firstRing("wait=15"), 25);
        Check.due("wait, whoever came behind", firstRing("wait=25"), 35);
        Check.due("wait to the end", firstRing("wait=1429"), 1439);
        Check.due("wait beyond the end", firstRing("wait=1430"), -1);
        Check.due("wait and minute go on together", firstRing("wait=7 and minute=17"), 17);
        Check.due("wait and minute go on together", firstRing("wait=700 and minute=710"), 710);
        Check.due("wait is not minute", firstRing("wait=7 and minute=18"), -1);
        String right = People.plain("a", "left", 30) + People.plain("b", "right", 10);
        Check.due("wait of the first on the right", Check.ferry("law wait=25;" + right).ring(0, 0), 35);
        // a goes at 1: then b has waited longest.
        EvenFerry next = Check.ferry("room 1;trip 0;law minute=1 or wait=7;" + People.plain("a", "left", 0)
                + People.plain("b", "left", 1) + People.plain("c", "right", 4));
        Check.due("ring(0, 0)", next.ring(0, 0), 1);
        Check.due("ring(1, 0)", next.ring(1, 0), 1);
        Check.due("wait of whom is left", next.ring(2, 0), 11);
    }

    private static void minutes() {
        Check.says(3, "has waited longest), minute");
        Check.due("minute", firstRing("minute=17"), 17);
        Check.due("minute ahead of them", firstRing("minute<10"), -1);
        Check.due("minute as they come", firstRing("minute=10"), 10);
        Check.due("the last minute", firstRing("minute=1439"), 1439);
        Check.due("no minute", firstRing("minute=1440"), -1);
    }

    private static void oneOrNothing() {
        Check.says(3, "Of not, and, or, < and = comes 1 or 0");
        holds("(not 0)=1");
        holds("(not 7)=0");
        holds("(7 and 9)=1");
        holds("(7 and 0)=0");
        holds("(0 or 5)=1");
        holds("(6 or 5)=1");
        holds("(0 or 0)=0");
        holds("(1<9)+(9=9)=2");
        holds("(9<1)+(9=1)=0");
    }

    private static void whatIsSo() {
        Check.says(3, "what is not 0 is so");
        holds("7");
        holds("0-1");
        holds("not(not(0-7))");
        holds("(0-7)and 2");
        holds("0 or(0-7)");
        holdsNot("7-7");
        holdsNot("not(0-7)");
    }

    private static void wrapping() {
        Check.says(3, "ints wrap");
        holds("4096*1024*512<0");
        holds("4096*1024*512-1=4096*1024*256-1+4096*1024*256");
        holds("0<4096*1024*512-1");
        holds("4096*1024*512-1+1<0");
        holdsNot("4096*1024*1024");
        holds("4096*1024*1024=0");
        holds("9999*9999*9999=9999*(9999*9999)");
        holds("0-4096*1024*512=4096*1024*512");
        // 9999 * 9999 * 9999 is 233 times 2 to the 32, less 1,027,349,969.
        holds("9999*9999*9999+1027*1000*1000+349*1000+969=0");
        holds("9999*9999*9999<0");
    }
}
