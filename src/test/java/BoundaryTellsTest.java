import java.util.Arrays;

/** Boundary cases of what a text tells: term I from its KINDS on, without FAULTS, and promises 6 to 9. */
public final class BoundaryTellsTest {
    private static final Check CHECK = new Check();
    private static final String K = "kind k 1 1 1;";
    private static final String I = "island i 1 1;";
    private static final String TWO = "kind k 1 1 1;kind l 2 1 1;island i 1 1;island j 1 1;";
    private static final int[] FAR = {-1, -2, -1000000, Integer.MIN_VALUE, Integer.MAX_VALUE, 99};
    // 2 to the 31: the least Int.
    private static final String LEAST = "256*256*256*128";

    public static void main(String[] args) {
        Sentences s = new Sentences(CHECK);
        sentences(s);
        s.run();
    }

    static void sentences(Sentences s) {
        s.hold("Term I", "KINDS (WORTH 1 .. 500, WEIGHT 1 .. 20, NEW 0 .. 99: what one costs to strike),", BoundaryTellsTest::kinds);
        s.hold("Term I", "ISLANDS (SAFE 0 .. 60: how many it should hold of each KIND; HARM 0 .. 99 of a piece that is lacked),",
            BoundaryTellsTest::islands);
        s.hold("Term I", "WANTS (an ISLAND, a KIND; of several of the same two the last one told alone holds),",
            BoundaryTellsTest::lastWant);
        s.hold("Term I", "LOSSES likewise,", BoundaryTellsTest::lastLoss);
        s.hold("Term I", "FLOWS (from, to, a KIND),", BoundaryTellsTest::allFlows);
        s.hold("Term I", "WEARS (a KIND; of several the last one told alone holds),", BoundaryTellsTest::lastWear);
        s.hold("Term I", "BOATS (an ISLAND, a MONTH 0 .. 11, ROOM 1 .. 999 by weight, COST 0 .. 999,", BoundaryTellsTest::boats);
        s.hold("Term I", "FAILS of ten, 0 if not told;", BoundaryTellsTest::fails);
        s.hold("Term I", "one for each ISLAND and MONTH)", BoundaryTellsTest::boatOfEach);
        s.hold("Term I", "are numbered each from 0 on as they stand.", BoundaryTellsTest::numbered);
        s.hold("Term I", "PLACES: 0 is the house, 1 and more the ISLANDS.", BoundaryTellsTest::places);
        arithmetic(s);
        s.hold("Promise 6", "Of a KIND: what 0 WORTH, 1 WEIGHT, 2 NEW.", BoundaryTellsTest::kindsOfAll);
        s.hold("Promise 6", "NONE for others.", BoundaryTellsTest::noKind);
        s.hold("Promise 7", "Of a PLACE (an ISLAND): what 0 SAFE, 1 HARM.", BoundaryTellsTest::islandsOfAll);
        s.hold("Promise 7", "NONE for others, for the house.", BoundaryTellsTest::noIsland);
        s.hold("Promise 8", "The BOAT of an ISLAND in a month;", BoundaryTellsTest::boatNumbers);
        s.hold("Promise 8", "-2: there is none;", BoundaryTellsTest::noBoat);
        s.hold("Promise 8", "NONE: no such ones.", BoundaryTellsTest::noSuchBoat);
        s.hold("Promise 9", "What is WANTED in a month;", BoundaryTellsTest::wanted);
        s.hold("Promise 9", "NONE: no such ones.", BoundaryTellsTest::noSuchWant);
    }

    private static void arithmetic(Sentences s) {
        s.hold("Term I", "VARS: month 0 .. 11,", BoundaryTellsTest::monthVar);
        s.hold("Term I", "has, worn, noise as told below, else 0.", BoundaryTellsTest::otherVars);
        s.hold("Term I", "Ints of 32 bits that wrap,", BoundaryTellsTest::wrap);
        s.hold("Term I", "/ rounded towards 0;", BoundaryTellsTest::rounded);
        s.hold("Term I", "an E that divides by 0 anywhere in it is 0 as a whole.", BoundaryTellsTest::dividesByZero);
        s.hold("Term I", "[ ] is 1 if it is so, else 0.", BoundaryTellsTest::isSo);
    }

    private static void due(String call, long got, long want) {
        CHECK.due(call, got, want);
    }

    private static void kinds() {
        CoinBoats x = Check.told("kind k 1 1 0;kind l 500 20 99;");
        int[][] want = {{1, 1, 0}, {500, 20, 99}};
        for (int kind = 0; kind < 2; kind++) {
            for (int what = 0; what < 3; what++) {
                due("kind(" + kind + ", " + what + ")", x.kind(kind, what), want[kind][what]);
            }
            due("strike(" + kind + ", 9999)", x.strike(kind, 9999), 9999);
            due("NEW 0, then 99", x.spent(3), kind * 9999 * 99);
        }
    }

    private static void islands() {
        CoinBoats x = Check.told("kind k 1 1 0;island i 0 0;island j 60 99;want i k=1;want j k=1;boat i 0 9 0;boat j 0 999 0;");
        int[][] want = {{0, 0}, {60, 99}};
        for (int place = 1; place <= 2; place++) {
            due("SAFE", x.island(place, 0), want[place - 1][0]);
            due("HARM", x.island(place, 1), want[place - 1][1]);
        }
        due("SAFE 0 holds none", x.order(1, 0, 0, 1, 0, 0), 0);
        due("SAFE 60", x.order(2, 0, 0, 1, 0, 0), 1);
        due("one is lacked at each", x.months(1, 1), 2);
        due("HARM 0 and 99", x.spent(1), 99);
    }

    private static void lastWant() {
        CoinBoats x = Check.told(TWO + "want i k=1;want i k=2;want j k=30;want i l=400;want i k=5;want j l=6000;");
        due("count(2)", x.count(2), 6);
        due("the last of three", x.want(1, 0, 0), 5);
        due("another ISLAND", x.want(2, 0, 0), 30);
        due("another KIND", x.want(1, 1, 0), 400);
        due("both others", x.want(2, 1, 0), 6000);
        due("each is lacked once", x.months(1, 1), 6435);
        due("lacks(1, 0)", x.lacks(1, 0), 5);
        x = Check.told(TWO + "want i k=9;want i k=0;want j k=7;want j k=1/0;");
        due("the last wants none", x.want(1, 0, 0), 0);
        due("the last divides by 0", x.want(2, 0, 0), 0);
        x = Check.told(TWO + "want i k=9;".repeat(11) + "want i k=3;");
        due("the last of twelve", x.want(1, 0, 0), 3);
    }

    private static void lastLoss() {
        CoinBoats x = Check.told(TWO + "lost i k=1;lost i k=2;lost j k=3;lost i l=4;lost i k=5;lost j l=6;");
        for (int place = 1; place <= 2; place++) {
            for (int kind = 0; kind < 2; kind++) {
                x.lay(place, kind, 0, 100);
            }
        }
        x.months(1, 1);
        due("the last of three", x.has(1, 0, 0), 95);
        due("another ISLAND", x.has(2, 0, 0), 97);
        due("another KIND", x.has(1, 1, 0), 96);
        due("both others", x.has(2, 1, 0), 94);
        x = Check.told(TWO + "lost i k=9;".repeat(11) + "lost i k=0;");
        x.lay(1, 0, 0, 100);
        x.months(1, 1);
        due("the last of twelve loses none", x.has(1, 0, 0), 100);
    }

    private static void allFlows() {
        CoinBoats x = Check.told(TWO + "flow i j k=1;flow i j k=20;flow i house k=300;flow i j l=4000;");
        x.lay(1, 0, 0, 9999);
        x.lay(1, 1, 0, 9999);
        x.months(1, 1);
        due("both of the same three", x.has(2, 0, 0), 21);
        due("to the house", x.has(0, 0, 0), 300);
        due("another KIND", x.has(2, 1, 0), 4000);
        due("all that went", x.has(1, 0, 0), 9999 - 321);
        x = Check.told(TWO + "flow house i k=1;".repeat(12));
        x.lay(0, 0, 0, 100);
        x.months(1, 1);
        due("all twelve", x.has(1, 0, 0), 12);
    }

    private static void lastWear() {
        CoinBoats x = Check.told(TWO + "wear k=1;wear l=30;wear k=2;wear k=5;");
        for (int place = 0; place <= 2; place++) {
            x.lay(place, 0, 0, 100);
            x.lay(place, 1, 0, 100);
        }
        x.months(1, 1);
        due("the last of three", x.has(1, 0, 1), 5);
        due("at the other ISLAND", x.has(2, 0, 1), 5);
        due("another KIND", x.has(1, 1, 1), 30);
        x = Check.told(TWO + "wear k=9;".repeat(11) + "wear k=0;");
        x.lay(1, 0, 0, 100);
        x.months(1, 1);
        due("the last of twelve wears none", x.has(1, 0, 0), 100);
    }

    private static void boats() {
        String text = "kind k 1 1 0;kind l 1 20 0;" + I + "boat i 0 1 0;boat i 11 999 999;";
        CoinBoats x = Check.told(text);
        x.lay(0, 0, 0, 2000);
        x.lay(0, 1, 0, 2000);
        x.send(0, 1, 0, 1, false);
        x.send(0, 1, 0, 1, false);
        x.send(11, 1, 1, 49, false);
        x.send(11, 1, 0, 19, false);
        x.send(11, 1, 0, 1, false);
        x.send(23, 1, 1, 50, false);
        x.months(1, 1);
        due("ROOM 1 of 1", x.done(0), 0);
        due("ROOM 1 of 2", x.done(1), 3);
        due("COST 0", x.spent(2), 0);
        x.months(1, 23);
        due("980 of 999 by weight", x.done(2), 0);
        due("999 of 999", x.done(3), 0);
        due("1000 of 999", x.done(4), 3);
        due("50 of WEIGHT 20", x.done(5), 3);
        due("COST 999", x.spent(2), 999);
    }

    private static void fails() {
        CoinBoats x = Check.told("kind k 1 1 0;island i 1 1;island j 1 1;island l 1 1;boat i 0 9 1;boat j 0 9 10 fails 0;"
            + "boat l 0 9 100 fails 10;");
        x.lay(0, 0, 0, 99);
        for (int t = 0; t < 120; t += 12) {
            for (int place = 1; place <= 3; place++) {
                x.send(t, place, 0, 1, false);
            }
        }
        for (int t = 0; t < 120; t += 12) {
            x.months(t - 50, 12);
        }
        for (int n = 0; n < 30; n++) {
            due("done(" + n + ")", x.done(n), n % 3 == 2 ? 2 : 0);
        }
        due("ten each of two", x.spent(2), 110);
    }

    private static void boatOfEach() {
        StringBuilder text = new StringBuilder("island i 1 1;island j 1 1;");
        int[] want = new int[24];
        Arrays.fill(want, -2);
        for (int n = 0; n < 12; n++) {
            int place = 1 + n % 2;
            int month = 11 - n + n % 2;
            text.append("boat ").append(place == 1 ? "i " : "j ").append(month).append(" 1 1;");
            want[12 * place - 12 + month] = n;
        }
        CoinBoats x = Check.told(text.toString());
        for (int place = 1; place <= 2; place++) {
            for (int month = 0; month < 12; month++) {
                due("boat(" + place + ", " + month + ")", x.boat(place, month), want[12 * place - 12 + month]);
            }
        }
    }

    private static void boatNumbers() {
        StringBuilder text = new StringBuilder("island i 1 1;island j 1 1;");
        for (int month = 0; month < 12; month++) {
            text.append("boat j ").append(month).append(" 1 1 fails 10;");
        }
        CoinBoats x = Check.told(text.toString());
        for (int month = 0; month < 12; month++) {
            due("boat(2, " + month + ")", x.boat(2, month), month);
        }
        x.months(1, 7);
        due("the month that is asked, not the one that it is", x.boat(2, 0), 0);
        due("the twelfth", x.boat(2, 11), 11);
    }

    private static void numbered() {
        CoinBoats x = Check.told("island j 5 6;boat j 3 1 1;kind l 2 3 4;kind k 7 8 9;boat j 0 1 1;island i 10 11;"
            + "flow house j k=noise;boat i 0 1 1;flow house i l=noise;kind z 99 1 1;island a 12 13;");
        due("KIND 0", x.kind(0, 0), 2);
        due("KIND 1", x.kind(1, 0), 7);
        due("KIND 2", x.kind(2, 0), 99);
        due("ISLAND 1", x.island(1, 0), 5);
        due("ISLAND 2", x.island(2, 0), 10);
        due("ISLAND 3", x.island(3, 0), 12);
        due("BOAT 0", x.boat(1, 3), 0);
        due("BOAT 1", x.boat(1, 0), 1);
        due("BOAT 2", x.boat(2, 0), 2);
    }

    private static void places() {
        CoinBoats x = Check.told("kind k 1 1 3;island i 9 4;island j 8 5;flow house j k=2;");
        due("island(0, 0)", x.island(0, 0), -1);
        due("island(1, 0)", x.island(1, 0), 9);
        due("island(2, 0)", x.island(2, 0), 8);
        due("island(3, 0)", x.island(3, 0), -1);
        due("strike(0, 7)", x.strike(0, 7), 7);
        due("the house has them", x.has(0, 0, 0), 7);
        x.months(1, 1);
        due("from the house", x.has(0, 0, 0), 5);
        due("to the second ISLAND", x.has(2, 0, 0), 2);
        x = new CoinBoats();
        due("no islands", x.read(), 0);
        due("island(1, 0)", x.island(1, 0), -1);
    }

    /** What an E says that is WANTED. */
    private static void says(String e, int month, int want) {
        due("[" + e + "] in month " + month, Check.told(K + I + "want i k=" + e + ";").want(1, 0, month), want);
    }

    private static void monthVar() {
        CoinBoats x = Check.told(K + I + "want i k=100+month;");
        for (int month = 0; month < 12; month++) {
            due("month " + month, x.want(1, 0, month), 100 + month);
        }
        due("months 0 .. 11", x.months(1, 12), 1266);
        due("month 0 again", x.months(1, 1), 100);
    }

    private static void otherVars() {
        says("5+has+worn+noise", 3, 5);
        CoinBoats x = Check.told(K + I + "want i k=7+has;");
        x.lay(1, 0, 2, 3);
        due("has of a WANT", x.want(1, 0, 0), 7);
        due("has of a WANT, as the month goes by", x.months(1, 1), 4);
        x = Check.told(TWO + "flow i j k=1+100*worn;wear l=1+100*noise;lost i l=2+100*worn+100*noise;");
        x.lay(1, 0, 3, 50);
        x.lay(1, 1, 0, 50);
        for (int t = 0; t < 5; t++) {
            x.months(t, 1);
        }
        due("worn of a FLOW", x.has(2, 0, 3), 5);
        due("worn, noise of a LOSS", x.has(1, 1, -1), 40);
        x = Check.told(TWO + "wear l=1+100*noise;");
        x.lay(1, 1, 0, 50);
        for (int t = 0; t < 5; t++) {
            x.months(t, 1);
        }
        due("noise of a WEAR", x.has(1, 1, 0), 45);
    }

    private static void wrap() {
        says("[" + LEAST + "<0]", 0, 1);
        says("[" + LEAST + "-1<0]", 0, 0);
        says(LEAST + "*2+7", 0, 7);
        says("[" + LEAST + "-1+1==" + LEAST + "]", 0, 1);
        says("[(" + LEAST + "-1)+(" + LEAST + "-1)==0-2]*3", 0, 3);
        says("[0-" + LEAST + "==" + LEAST + "]*4", 0, 4);
        says("[" + LEAST + "/(0-1)==" + LEAST + "]*5", 0, 5);
        says("256*256*256*256+6", 0, 6);
        // 999700029999 is -1027349969 of 32 bits, 979903989801 is 651446313.
        says("9999*9999*9999/1000/1000+5000", 0, 3973);
        says("[9999*9999*9999<0]*8", 0, 8);
        says("9999*9999*99*99/100/1000", 0, 6514);
        // A whole WANT that wraps below 0 is held to 0, one that wraps to the most to 9999.
        says(LEAST, 0, 0);
        says(LEAST + "-1", 0, 9999);
    }

    private static void rounded() {
        says("7/2", 0, 3);
        says("1/2", 0, 0);
        says("10+(0-7)/2", 0, 7);
        says("10+7/(0-2)", 0, 7);
        says("10+(0-7)/(0-2)", 0, 13);
        says("10+(0-1)/2", 0, 10);
        says("10+(0-6)/3", 0, 8);
        says("10+(0-5)/3", 0, 9);
        says("0/7+4", 0, 4);
        says("7/2*2", 0, 6);
        says("100+(month-6)/4", 1, 99);
        says("100+(month-6)/4", 3, 100);
        says("100+(month-6)/4", 10, 101);
    }

    private static void dividesByZero() {
        says("1/0", 0, 0);
        says("5+1/0", 0, 0);
        says("1/0+5", 0, 0);
        says("5+0*(1/0)", 0, 0);
        says("5+0/0", 0, 0);
        says("5+[1/0==0]", 0, 0);
        says("5+[1<1/0]", 0, 0);
        says("5+((((((1/0))))))", 0, 0);
        says("5+1/(month-4)", 4, 0);
        says("5+1/(month-4)", 5, 6);
        says("5+1/has", 0, 0);
        says("5/[2<1]", 0, 0);
        says("5+7/(256*256*256*256)", 0, 0);
        says("5+0/7", 0, 5);
        CoinBoats x = Check.told(TWO + "want i k=7;want i l=1/0;want j k=8;want j l=9+[0==month/month];");
        due("an E ahead of one that divides by 0", x.want(1, 0, 0), 7);
        due("one that divides by 0", x.want(1, 1, 0), 0);
        due("an E behind it", x.want(2, 0, 0), 8);
        due("one that divides by 0 in month 0", x.want(2, 1, 0), 0);
        due("and not in month 1", x.want(2, 1, 1), 9);
        x = Check.told(TWO + "flow i j k=3+1/month;lost i l=3+1/month;wear l=3+1/month;");
        x.lay(1, 0, 0, 50);
        x.lay(1, 1, 0, 50);
        x.months(1, 1);
        due("no FLOW", x.has(1, 0, 0), 50);
        due("no WEAR, no LOSS", x.has(1, 1, 0), 50);
        x.months(1, 1);
        due("a FLOW of 4", x.has(1, 0, 0), 46);
        due("a WEAR of 4, which are lost", x.has(1, 1, 0), 46);
        due("a LOSS of 4", x.has(1, 1, 1), 0);
        x = Check.told(TWO + "flow house i k=6+1/has;");
        x.months(1, 1);
        x.lay(0, 0, 0, 50);
        x.months(1, 1);
        due("nothing is there, then 50", x.has(1, 0, 0), 6);
    }

    private static void isSo() {
        says("[1<2]", 0, 1);
        says("[2<2]", 0, 0);
        says("[3<2]", 0, 0);
        says("[2==2]", 0, 1);
        says("[1==2]", 0, 0);
        says("[3==2]", 0, 0);
        says("[0-1<0]", 0, 1);
        says("[month<6]*7", 5, 7);
        says("[month<6]*7", 6, 0);
        says("[month==11]*7", 11, 7);
        says("[month==11]*7", 10, 0);
        says("5+[2<2]", 0, 5);
        says("5+[3<2]*3", 0, 5);
        says("5-[3<2]", 0, 5);
        says("5+[1==2]", 0, 5);
        says("5-[3==2]*3", 0, 5);
        says("5+[1<2]+[2==2]", 0, 7);
        says("[[1<2]==[2==2]]+[1<2]*40", 0, 41);
    }

    private static void kindsOfAll() {
        CoinBoats x = Check.told("kind a 1 2 3;kind b 4 5 6;kind c 7 8 9;kind d 10 11 12;kind e 13 14 15;kind f 16 17 18;");
        for (int kind = 0; kind < 6; kind++) {
            for (int what = 0; what < 3; what++) {
                due("kind(" + kind + ", " + what + ")", x.kind(kind, what), 1 + 3 * kind + what);
            }
        }
    }

    private static void noKind() {
        CoinBoats x = Check.told(TWO);
        for (int far : FAR) {
            due("kind(" + far + ", 0)", x.kind(far, 0), -1);
            due("kind(0, " + far + ")", x.kind(0, far), -1);
        }
        due("kind(2, 0)", x.kind(2, 0), -1);
        due("kind(1, 3)", x.kind(1, 3), -1);
        due("kind(6, 0)", x.kind(6, 0), -1);
    }

    private static void islandsOfAll() {
        CoinBoats x = Check.told("island a 1 2;island b 3 4;island c 5 6;island d 7 8;");
        for (int place = 1; place <= 4; place++) {
            for (int what = 0; what < 2; what++) {
                due("island(" + place + ", " + what + ")", x.island(place, what), 2 * place - 1 + what);
            }
        }
    }

    private static void noIsland() {
        CoinBoats x = Check.told(TWO);
        for (int far : FAR) {
            due("island(" + far + ", 0)", x.island(far, 0), -1);
            due("island(1, " + far + ")", x.island(1, far), -1);
        }
        due("island(0, 0)", x.island(0, 0), -1);
        due("island(0, 1)", x.island(0, 1), -1);
        due("island(3, 0)", x.island(3, 0), -1);
        due("island(2, 2)", x.island(2, 2), -1);
    }

    private static void noBoat() {
        CoinBoats x = Check.told(TWO + "boat i 0 1 1;boat j 11 1 1;");
        for (int month = 0; month < 12; month++) {
            due("boat(1, " + month + ")", x.boat(1, month), month == 0 ? 0 : -2);
            due("boat(2, " + month + ")", x.boat(2, month), month == 11 ? 1 : -2);
        }
    }

    private static void noSuchBoat() {
        CoinBoats x = Check.told(TWO + "boat i 0 1 1;boat j 11 1 1;");
        for (int far : FAR) {
            due("boat(" + far + ", 0)", x.boat(far, 0), -1);
            due("boat(1, " + far + ")", x.boat(1, far), -1);
        }
        due("boat(0, 0)", x.boat(0, 0), -1);
        due("boat(3, 0)", x.boat(3, 0), -1);
        due("boat(2, 12)", x.boat(2, 12), -1);
        due("boat(2, 23)", x.boat(2, 23), -1);
        due("boat(3, 12)", x.boat(3, 12), -1);
    }

    private static void wanted() {
        CoinBoats x = Check.told(TWO + "want i k=9999;want i l=9999+1;want j k=0-1;");
        due("the most", x.want(1, 0, 0), 9999);
        due("above the most", x.want(1, 1, 11), 9999);
        due("below 0", x.want(2, 0, 0), 0);
        due("no WANT", x.want(2, 1, 0), 0);
        says("0", 11, 0);
        says("1", 11, 1);
        says("9998+[month==11]", 11, 9999);
        says("month-1", 0, 0);
        says("month-1", 1, 0);
        says("month-1", 2, 1);
    }

    private static void noSuchWant() {
        CoinBoats x = Check.told(TWO + "want i k=5;want j l=5;");
        for (int far : FAR) {
            due("want(" + far + ", 0, 0)", x.want(far, 0, 0), -1);
            due("want(1, " + far + ", 0)", x.want(1, far, 0), -1);
            due("want(1, 0, " + far + ")", x.want(1, 0, far), -1);
        }
        due("want(0, 0, 0)", x.want(0, 0, 0), -1);
        due("want(3, 0, 0)", x.want(3, 0, 0), -1);
        due("want(1, 2, 0)", x.want(1, 2, 0), -1);
        due("want(1, 0, 12)", x.want(1, 0, 12), -1);
    }
}
