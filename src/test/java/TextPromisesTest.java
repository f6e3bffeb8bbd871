/** Promises 1 to 9: the tape, the text, its FAULTS and what it tells. */
public final class TextPromisesTest {
    private static final Check CHECK = new Check();
    // Both of 13 bytes; of 6 and 5 TOKENS.
    private static final String K = "kind k 1 1 1;";
    private static final String I = "island i 1 1;";

    public static void main(String[] args) {
        aNewObject();
        feed();
        back();
        read();
        syntax();
        room();
        nestedAndTokens();
        twiceAndNameless();
        bounds();
        firstFault();
        kindsAndIslands();
        boats();
        wants();
        arithmetic();
        again();
        CHECK.finish();
    }

    private static void due(String call, long got, long want) {
        CHECK.due(call, got, want);
    }

    private static void fault(String text, int fault, int place) {
        CoinBoats x = new CoinBoats();
        due("read() of [" + text + "]", Check.tell(x, text), fault);
        due("place() of [" + text + "]", x.place(), place);
        due("bytes behind [" + text + "]", x.count(8), 0);
    }

    private static void good(String text) {
        fault(text, 0, -1);
    }

    private static void aNewObject() {
        CHECK.promise("Promise 1");
        CoinBoats x = new CoinBoats();
        for (int what = 0; what < 12; what++) {
            due("count(" + what + ")", x.count(what), 0);
        }
        due("place()", x.place(), -1);
        due("kind(0, 0)", x.kind(0, 0), -1);
        due("island(1, 0)", x.island(1, 0), -1);
        due("want(1, 0, 0)", x.want(1, 0, 0), -1);
        due("lay(0, 0, 0, 1)", x.lay(0, 0, 0, 1), -1);
        due("strike(0, 1)", x.strike(0, 1), -1);
        due("send(0, 1, 0, 1, false)", x.send(0, 1, 0, 1, false), -1);
        due("done(0)", x.done(0), -1);
        due("judge()", x.judge(), -2);
        due("spent(0)", x.spent(0), 0);
        due("book(1, 0, 1, true)", x.book(1, 0, 1, true), -1);
        due("restore(0)", x.restore(0) ? 1 : 0, 0);
        due("NONE", CoinBoats.NONE, -1);
    }

    private static void feed() {
        CHECK.promise("Promise 2");
        CoinBoats x = new CoinBoats();
        // "kind" " a 5" " 6 7" ";   " "    "
        due("feed", x.feed(0x6b696e64, 0x20612035, 0x20362037, 0x3b202020, 0x20202020), 20);
        due("read()", x.read(), 0);
        due("kind(0, 0)", x.kind(0, 0), 5);
        due("kind(0, 1)", x.kind(0, 1), 6);
        due("kind(0, 2)", x.kind(0, 2), 7);
        for (int i = 1; i <= 99; i++) {
            due("feed", x.feed(0x20202020, 0x20202020, 0x20202020, 0x20202020, 0x20202020), 20 * i);
        }
        x.back(0);
        due("feed up to 2000", x.feed(0x20202020, 0x20202020, 0x20202020, 0x20202020, 0x2020203b), 2000);
        due("feed beyond 2000", x.feed(1, 2, 3, 4, 5), -1);
        due("count(8)", x.count(8), 2000);
        due("back(19)", x.back(19), 1981);
        due("feed from 1981", x.feed(1, 2, 3, 4, 5), -1);
        due("back(1)", x.back(1), 1980);
        due("feed from 1980", x.feed(0x20202020, 0x20202020, 0x20202020, 0x20202020, 0x2020203b), 2000);
        due("read() of blanks and ;", x.read(), 1);
        due("place()", x.place(), 1999);
        Check.feed(x, K);
        due("feed behind 13", x.feed(-1, -1, -1, -1, -1), 33);
        due("read() of bytes 255", x.read(), 1);
        due("place()", x.place(), 13);
    }

    private static void back() {
        CHECK.promise("Promise 3");
        CoinBoats x = new CoinBoats();
        due("back(0)", x.back(0), 0);
        due("back(1)", x.back(1), -1);
        Check.feed(x, K + "#######");
        due("back(-1)", x.back(-1), -1);
        due("back(least)", x.back(Integer.MIN_VALUE), -1);
        due("back(21)", x.back(21), -1);
        due("count(8)", x.count(8), 20);
        due("back(7)", x.back(7), 13);
        due("read()", x.read(), 0);
        due("back(1) behind read()", x.back(1), -1);
        Check.feed(x, "####################");
        due("back(20)", x.back(20), 0);
        due("read() of nothing", x.read(), 0);
        due("count(0)", x.count(0), 0);
    }

    private static void read() {
        CHECK.promise("Promises 4, 5");
        CoinBoats x = Check.told(K + I + "boat i 0 9 2;want i k=3;");
        x.strike(0, 5);
        x.lay(1, 0, 1, 1);
        x.send(0, 1, 0, 2, false);
        x.book(1, 0, 7, true);
        x.hold(1);
        x.months(1, 2);
        due("a text with a FAULT", Check.tell(x, "kind z 1 1 1;;"), 1);
        due("its place()", x.place(), 13);
        due("tape", x.count(8), 0);
        due("kinds stay", x.count(0), 1);
        due("pieces stay", x.has(1, 0, -1), 3);
        due("SENDINGS stay", x.done(0), 0);
        due("BOOKS stay", x.count(6), 1);
        due("TIME stays", x.count(7), 2);
        due("SLOTS stay", x.count(9), 1);
        due("SPENT stays", x.spent(0), 5 + 2);
        due("a text without", Check.tell(x, K + I + "boat i 0 9 2;want i k=3;"), 0);
        due("place()", x.place(), -1);
        due("pieces", x.has(1, 0, -1), 0);
        due("house", x.has(0, 0, -1), 0);
        due("SENDINGS", x.count(5), 0);
        due("BOOKS", x.count(6), 0);
        due("TIME", x.count(7), 0);
        due("SLOTS", x.count(9), 0);
        due("restore(1)", x.restore(1) ? 1 : 0, 0);
        due("SPENT", x.spent(0), 0);
        due("months(1, 1)", x.months(1, 1), 3);
        due("lacks(1, 0)", x.lacks(1, 0), 3);
        due("an empty text", x.read(), 0);
        due("kinds", x.count(0), 0);
        due("islands", x.count(1), 0);
        due("wants", x.count(2), 0);
        due("boats", x.count(4), 0);
        due("TIME", x.count(7), 0);
        good("");
        good(" \t\n\r");
    }

    private static void syntax() {
        CHECK.promise("Promise 4, SYNTAX");
        fault("\f", 1, 0);
        fault("kind", 1, 4);
        fault("kind ", 1, 5);
        fault("kind k 1 1 1", 1, 12);
        fault("kind k 1 1;", 1, 10);
        fault("kind k 1 1 1 1;", 1, 13);
        fault(K + ";", 1, 13);
        fault(K + "x", 1, 13);
        fault("house", 1, 0);
        fault("k", 1, 0);
        fault("1", 1, 0);
        fault("kindk 1 1 1;", 1, 0);
        good("kind k1 1 1;");
        good("kind\tk\n1\r1\r\n1\t;\n");
        fault("kind k 1,1 1;", 1, 8);
        fault("kind K 1 1 1;", 1, 5);
        fault("kind k -1 1 1;", 1, 7);
        good("kind abcdefgh 1 1 1;");
        fault("kind abcdefghi 1 1 1;", 1, 5);
        fault("kind k 00001 1 1;", 1, 7);
        good("kind k 0001 01 001;");
        fault("kind k 10000 1 1;", 1, 7);
        for (String word : new String[] {"kind", "island", "want", "lost", "flow", "house", "wear", "boat", "fails",
            "month", "has", "worn", "noise"}) {
            fault("kind " + word + " 1 1 1;", 1, 5);
            good("kind " + word.substring(1) + " 1 1 1;");
            good("kind " + word + "s 1 1 1;");
        }
        fault("island i 1;", 1, 10);
        fault("island i 1 1 1;", 1, 13);
        fault(K + I + "want i=1;", 1, 32);
        fault(K + I + "want house k=1;", 1, 31);
        fault(K + I + "lost house k=1;", 1, 31);
        fault(K + I + "want i k 1;", 1, 35);
        fault(K + I + "want i k==1;", 1, 34);
        fault(K + I + "flow i k=1;", 1, 34);
        fault(K + I + "flow i house house=1;", 1, 39);
        fault(K + I + "wear i k=1;", 1, 33);
        fault(K + I + "boat house 1 1 1;", 1, 31);
        fault(K + I + "boat i 1 1;", 1, 36);
        fault(K + I + "boat i 1 1 1 1;", 1, 39);
        fault(K + I + "boat i 1 1 1 fails;", 1, 44);
        fault(K + I + "boat i 1 1 1 fails 1 1;", 1, 47);
        for (String e : new String[] {"", "+1", "1+", "1++1", "1 1", "k", "1-*2", "()", "(1", "(1]", "[1]", "[1<2",
            "[1<2)", "[1<2<3]", "[1=1]", "[1<]", "[<1]", "(1<2)", "1==1", "[1===1]", "house", "fails", "-1", "1)", "1]"}) {
            CoinBoats x = new CoinBoats();
            due("read() of E [" + e + "]", Check.tell(x, K + "wear k=" + e + ";"), 1);
        }
        fault(K + "wear k=[1<2<3];", 1, 24);
        fault(K + "wear k=(1];", 1, 22);
        fault(K + "wear k=[1===1];", 1, 24);
        good(K + "wear k=[ 1 == ( month - has * worn / noise ) ] + [1<2];");
    }

    private static String many(String told, int from, int upTo) {
        StringBuilder text = new StringBuilder();
        for (int i = from; i < upTo; i++) {
            text.append(told.replace("#", String.valueOf((char) ('a' + i))));
        }
        return text.toString();
    }

    private static void room() {
        CHECK.promise("Promise 4, ROOM");
        good(many("kind # 1 1 1;", 0, 6));
        fault(many("kind # 1 1 1;", 0, 7), 2, 6 * 13);
        fault(many("kind # 1 1 1;", 0, 6) + "kind", 2, 6 * 13);
        fault(many("kind # 1 1 1;", 0, 6) + "kind kind", 2, 6 * 13);
        fault(many("kind # 1 1 1;", 0, 6) + "kinds", 1, 6 * 13);
        good(many("island # 1 1;", 0, 4) + K);
        fault(many("island # 1 1;", 0, 5), 2, 4 * 13);
        for (String told : new String[] {"want i k=1;", "lost i k=1;", "flow i house k=1;", "wear k=1;"}) {
            good(K + I + many(told, 0, 12));
            fault(K + I + many(told, 0, 13), 2, 26 + 12 * told.length());
        }
        StringBuilder boats = new StringBuilder(K + I);
        for (int i = 0; i < 12; i++) {
            boats.append("boat i ").append(i).append(" 1 1;");
        }
        good(boats.toString());
        fault(boats + " boat i 12 1 1;", 2, boats.length() + 1);
        good(boats + many("want i k=1;", 0, 12) + many("lost i k=1;", 0, 12) + many("wear k=1;", 0, 12));
    }

    private static void nestedAndTokens() {
        good(K + "wear k=((((((1))))));");
        fault(K + "wear k=(((((((1)))))));", 2, 26);
        good(K + "wear k=[[[[[[1<1]<1]<1]<1]<1]<1];");
        fault(K + "wear k=[([([([1<1])<1])<1])<1];", 2, 26);
        fault(K + "wear k=((((((1+(1)))))));", 2, 28);
        good(K + "wear k=((((((1))))))+((((((1))))))*[1<(((((1)))))];");
        fault(K + "wear k=[1<((((((1))))))];", 2, 28);
        // 6 + 5 + 3 TOKENS, 385 of the E, the last ;
        StringBuilder text = new StringBuilder(K + I + "wear k=1");
        for (int i = 0; i < 192; i++) {
            text.append("+1");
        }
        text.append(";");
        good(text.toString());
        fault(text + " island", 2, text.length() + 1);
        fault(text + " ;", 1, text.length() + 1);
        fault(text + " A", 1, text.length() + 1);
        text.setLength(text.length() - 1);
        fault(text + "+1;", 2, text.length() + 1);
        fault(text + "+;", 1, text.length() + 1);
        fault(text + "+", 1, text.length() + 1);
        StringBuilder last = new StringBuilder(K);
        for (int i = 0; i < 12; i++) {
            last.append("wear k=1+1+1+1+1+1+1+1+1+1+1+1+1+1;");
        }
        fault(last.toString(), 0, -1);
        fault("kind k 1 1 1 " + " ".repeat(1980) + ";", 0, -1);
    }

    private static void twiceAndNameless() {
        CHECK.promise("Promise 4, TWICE and NAME");
        fault(K + K, 3, 18);
        fault(I + I, 3, 20);
        fault(K + "island k 1 1;", 3, 20);
        fault(I + "kind i 1 1 1;", 3, 18);
        fault(K + I + "boat i 3 1 1;boat i 3 1 1;", 3, 46);
        good(K + I + "boat i 3 1 1;boat i 4 1 1;");
        names();
        good(K + I + "island j 1 1;boat i 3 1 1;boat j 3 1 1;");
        fault(K + I + "boat i 3 1 1;boat i 03 1 1;", 3, 46);
        fault("want i k=1;", 4, 5);
        fault(I + "want i k=1;", 4, 20);
        fault(K + "want k k=1;", 4, 18);
        fault(I + "want i i=1;", 4, 20);
        fault(K + "want i k=1;" + I, 4, 18);
        fault(K + "lost i k=1;", 4, 18);
        fault(I + "lost i k=1;", 4, 20);
        fault(I + "wear i=1;", 4, 18);
        fault("wear k=1;", 4, 5);
        fault(K + "boat k 1 1 1;", 4, 18);
        fault("boat i 1 1 1;", 4, 5);
        fault(K + I + "flow j i k=1;", 4, 31);
        fault(K + I + "flow i j k=1;", 4, 33);
        fault(K + I + "flow i house j=1;", 4, 39);
        fault(K + I + "flow j j k=1;", 4, 31);
    }

    /** Names that are other ones in one letter alone, or longer by one. */
    private static void names() {
        good("kind abcdefgh 1 1 1;kind bbcdefgh 1 1 1;kind abcdefgg 1 1 1;kind abcdffgh 1 1 1;island abcdefg 1 1;"
            + "island bcdefgh 1 1;");
        good("kind a 1 1 1;kind aa 1 1 1;kind aaa 1 1 1;kind b 1 1 1;kind ab 1 1 1;kind ba 1 1 1;");
        good("kind p 1 1 1;kind ap 1 1 1;kind z 1 1 1;kind az 1 1 1;kind zz 1 1 1;kind zzzzzzzz 1 1 1;island zzzzzzz 1 1;");
        fault("kind zzzzzzzz 1 1 1;island zzzzzzzz 1 1;", 3, 27);
        CoinBoats x = Check.told("kind k 1 1 1;island i 1 1;island ii 1 1;island j 1 1;want ii k=2;want i k=1;want j k=3;");
        for (int place = 1; place < 4; place++) {
            due("want(" + place + ", 0, 0)", x.want(place, 0, 0), place);
        }
    }

    private static void bounds() {
        CHECK.promise("Promise 4, WRONG");
        fault("kind k 0 1 1;", 5, 7);
        good("kind k 500 20 99;");
        fault("kind k 501 1 1;", 5, 7);
        fault("kind k 1 0 1;", 5, 9);
        fault("kind k 1 21 1;", 5, 9);
        good("kind k 1 1 0;");
        fault("kind k 1 1 100;", 5, 11);
        good("island i 0 0;");
        good("island i 60 99;");
        fault("island i 61 1;", 5, 9);
        fault("island i 1 100;", 5, 11);
        good(I + "boat i 0 1 0 fails 0;");
        good(I + "boat i 11 999 999 fails 10;");
        fault(I + "boat i 12 1 1;", 5, 20);
        fault(I + "boat i 1 0 1;", 5, 22);
        fault(I + "boat i 1 1000 1;", 5, 22);
        fault(I + "boat i 1 1 1000;", 5, 24);
        fault(I + "boat i 1 1 1 fails 11;", 5, 32);
        fault(K + I + "flow house house k=1;", 5, 37);
        fault(K + I + "flow i i k=1;", 5, 33);
        good(K + I + "flow i house k=9999;");
        good(K + I + "want i k=9999*9999;");
    }

    private static void firstFault() {
        CHECK.promise("Promise 4, the first FAULT");
        fault("kind k 501 21 100;", 5, 7);
        fault("kind k 1 21 100;", 5, 9);
        fault("kind k 501 1 1;;", 1, 15);
        fault("kind k 501 1 1;" + K, 5, 7);
        fault(K + K + "kind z 501 1 1;", 3, 18);
        fault("want i k=1;" + K + "kind k 501 1 1;", 4, 5);
        fault("want i k=(((((((1)))))));", 2, 15);
        fault("want i k=1" + ";;", 1, 11);
        fault(many("kind a 1 1 1;", 0, 7), 2, 78);
        fault(many("kind a 1 1 1;", 0, 7) + "#", 2, 78);
        fault(I + "boat i 12 0 1000 fails 11;", 5, 20);
        fault(I + "boat j 12 0 1000 fails 11;", 4, 18);
        CHECK.promise("Promise 5");
        CoinBoats x = new CoinBoats();
        due("place()", x.place(), -1);
        Check.tell(x, "kind k 0 1 1;");
        due("place()", x.place(), 7);
        Check.feed(x, "kind");
        due("place() of the latest read()", x.place(), 7);
        x.read();
        due("place()", x.place(), 4);
        x.read();
        due("place() of an empty text", x.place(), -1);
    }

    private static void kindsAndIslands() {
        CHECK.promise("Promise 6");
        CoinBoats x = Check.told("kind a 1 2 3;kind b 500 20 99;island i 4 5;island j 60 99;");
        int[][] kinds = {{1, 2, 3}, {500, 20, 99}};
        for (int kind = 0; kind < 2; kind++) {
            for (int what = 0; what < 3; what++) {
                due("kind(" + kind + ", " + what + ")", x.kind(kind, what), kinds[kind][what]);
            }
        }
        due("kind(2, 0)", x.kind(2, 0), -1);
        due("kind(-1, 0)", x.kind(-1, 0), -1);
        due("kind(0, 3)", x.kind(0, 3), -1);
        due("kind(0, -1)", x.kind(0, -1), -1);
        CHECK.promise("Promise 7");
        due("island(1, 0)", x.island(1, 0), 4);
        due("island(1, 1)", x.island(1, 1), 5);
        due("island(2, 0)", x.island(2, 0), 60);
        due("island(2, 1)", x.island(2, 1), 99);
        due("island(0, 0)", x.island(0, 0), -1);
        due("island(3, 0)", x.island(3, 0), -1);
        due("island(-1, 1)", x.island(-1, 1), -1);
        due("island(1, 2)", x.island(1, 2), -1);
        due("island(1, -1)", x.island(1, -1), -1);
    }

    private static void boats() {
        CHECK.promise("Promise 8");
        CoinBoats x = Check.told("island i 4 5;island j 6 7;boat j 0 1 1;boat i 11 2 2;boat j 11 3 3 fails 4;");
        due("boat(2, 0)", x.boat(2, 0), 0);
        due("boat(1, 11)", x.boat(1, 11), 1);
        due("boat(2, 11)", x.boat(2, 11), 2);
        due("boat(1, 0)", x.boat(1, 0), -2);
        due("boat(0, 0)", x.boat(0, 0), -1);
        due("boat(3, 0)", x.boat(3, 0), -1);
        due("boat(-1, 0)", x.boat(-1, 0), -1);
        due("boat(1, 12)", x.boat(1, 12), -1);
        due("boat(1, -1)", x.boat(1, -1), -1);
    }

    private static void wants() {
        CHECK.promise("Promise 9");
        CoinBoats x = Check.told("kind a 1 1 1;kind b 2 1 1;island i 1 1;island j 1 1;"
            + "want i a=5;want j a=month*2;want i a=month-3;want j b=9999+month;");
        due("want(1, 0, 2)", x.want(1, 0, 2), 0);
        due("want(1, 0, 3)", x.want(1, 0, 3), 0);
        due("want(1, 0, 4)", x.want(1, 0, 4), 1);
        due("want(1, 0, 11)", x.want(1, 0, 11), 8);
        due("want(2, 0, 11)", x.want(2, 0, 11), 22);
        due("want(2, 1, 0)", x.want(2, 1, 0), 9999);
        due("want(2, 1, 1)", x.want(2, 1, 1), 9999);
        due("want(1, 1, 1)", x.want(1, 1, 1), 0);
        due("want(0, 0, 0)", x.want(0, 0, 0), -1);
        due("want(3, 0, 0)", x.want(3, 0, 0), -1);
        due("want(1, 2, 0)", x.want(1, 2, 0), -1);
        due("want(1, -1, 0)", x.want(1, -1, 0), -1);
        due("want(1, 0, 12)", x.want(1, 0, 12), -1);
        due("want(1, 0, -1)", x.want(1, 0, -1), -1);
        due("count(2)", x.count(2), 4);
    }

    /** Text behind text: each is read as if it were the first one. */
    private static void again() {
        CHECK.promise("Promise 4, again and again");
        StringBuilder e = new StringBuilder("1");
        for (int i = 1; i < 180; i++) {
            e.append("+1");
        }
        CoinBoats x = new CoinBoats();
        for (int i = 0; i < 6; i++) {
            due("read()", Check.tell(x, K + I + "want i k=" + e + "+" + i + ";"), 0);
            due("want(1, 0, 0)", x.want(1, 0, 0), 180 + i);
            due("read()", Check.tell(x, K + I + "want i k=1/0;lost i k=7;wear k=7;flow house i k=7;boat i 0 9 9;"), 0);
            due("want(1, 0, 0)", x.want(1, 0, 0), 0);
            due("read() of a FAULT", Check.tell(x, K + I + "want i k=(((1-;"), 1);
            x.lay(0, 0, 0, 8);
            x.lay(1, 0, 2, 8);
            x.months(1, 1);
            due("has(1, 0, -1)", x.has(1, 0, -1), 8);
            due("count(10)", x.count(10), 1);
            due("count(11)", x.count(11), 1);
            due("count(3)", x.count(3), 1);
            due("count(4)", x.count(4), 1);
        }
    }

    private static void says(String e, int month, int want) {
        CoinBoats x = Check.told(K + I + "want i k=" + e + ";");
        due("E " + e + " of month " + month, x.want(1, 0, month), want);
    }

    private static void arithmetic() {
        CHECK.promise("Promise 9, an E");
        says("1+2*3", 0, 7);
        says("(1+2)*3", 0, 9);
        says("10-3-2", 0, 5);
        says("100/7/2", 0, 7);
        says("100/7*2", 0, 28);
        says("2*7/4", 0, 3);
        says("20-7/2", 0, 17);
        says("10+(0-7)/2", 0, 7);
        says("10+7/(0-2)", 0, 7);
        says("month", 11, 11);
        says("month*month+0001", 4, 17);
        says("has+worn+noise+3", 4, 3);
        says("[1<2]", 0, 1);
        says("[2<2]", 0, 0);
        says("[3<2]", 0, 0);
        says("[2==2]", 0, 1);
        says("[1==2]", 0, 0);
        says("5+[month<6]*[1+1==2]*7", 5, 12);
        says("5+[month<6]*[1+1==2]*7", 6, 5);
        says("0-1", 0, 0);
        says("9999", 0, 9999);
        says("9999+1", 0, 9999);
        says("1/0", 0, 0);
        says("5+1/0", 0, 0);
        says("5+3*(2+7/(month-3))", 3, 0);
        says("5+3*(2+7/(month-3))", 4, 32);
        says("5+[1/0<7]", 0, 0);
        says("5+0*(1/0)", 0, 0);
        says("7/[1<0]", 0, 0);
        says("[1/month==5]+8", 0, 0);
        says("[1/month==1]+8", 1, 9);
        // 65536 * 65536 is 0 of 32 bits, 65536 * 32768 the least Int.
        says("256*256*256*256+3", 0, 3);
        says("[256*256*256*128<0]", 0, 1);
        says("[256*256*256*128/(0-1)==256*256*256*128]*6", 0, 6);
        says("[256*256*256*128-1<0]", 0, 0);
        says("(256*256*256*128-1)/256/256/256", 0, 127);
        says("9999*9999*99/1000/1000", 0, 1308);
        says("((((((1+1)*2+1)*2+1)*2+1)*2+1)*2+1)", 0, 95);
        says("1-(2-(3-(4-(5-(6-(7-month))))))", 3, 1);
        says("[1<[2<[3<[4<[5<[6<7]]]]]]+9", 0, 9);
        says("[0<[0<[0<[0<[0<[6<7]]]]]]+9", 0, 10);
    }
}
