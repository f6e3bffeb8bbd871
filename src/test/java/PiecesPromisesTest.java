/** Promises 10 to 20: pieces, SENDINGS and months. */
public final class PiecesPromisesTest {
    private static final Check CHECK = new Check();
    private static final String TWO = "kind a 1 2 3;kind b 5 1 10;island i 10 4;island j 20 9;";

    public static void main(String[] args) {
        strike();
        burn();
        lay();
        has();
        send();
        reasons();
        wornFirst();
        judge();
        judgedApart();
        order();
        flows();
        wears();
        losses();
        noise();
        failing();
        lacks();
        time();
        CHECK.finish();
    }

    private static void due(String call, long got, long want) {
        CHECK.due(call, got, want);
    }

    /** What a PLACE has of a KIND, WORN 0 to 3. */
    private static void pieces(CoinBoats x, int place, int kind, int a, int b, int c, int d) {
        int[] want = {a, b, c, d};
        for (int worn = 0; worn < 4; worn++) {
            due("has(" + place + ", " + kind + ", " + worn + ")", x.has(place, kind, worn), want[worn]);
        }
    }

    private static void lay(CoinBoats x, int place, int kind, int a, int b, int c, int d) {
        x.lay(place, kind, 0, a);
        x.lay(place, kind, 1, b);
        x.lay(place, kind, 2, c);
        x.lay(place, kind, 3, d);
    }

    private static void strike() {
        CHECK.promise("Promise 10");
        CoinBoats x = Check.told(TWO);
        due("strike(0, 5)", x.strike(0, 5), 5);
        due("spent(3)", x.spent(3), 15);
        x.lay(0, 0, 2, 7);
        x.lay(1, 0, 0, 50);
        due("strike(0, 1)", x.strike(0, 1), 13);
        pieces(x, 0, 0, 6, 0, 7, 0);
        due("strike(1, 9999)", x.strike(1, 9999), 9999);
        due("spent(3)", x.spent(3), 18 + 99990);
        due("strike(0, 0)", x.strike(0, 0), -1);
        due("strike(0, -1)", x.strike(0, -1), -1);
        due("strike(0, 10000)", x.strike(0, 10000), -1);
        due("strike(2, 1)", x.strike(2, 1), -1);
        due("strike(-1, 1)", x.strike(-1, 1), -1);
        due("spent(3)", x.spent(3), 18 + 99990);
        for (int i = 2; i <= 100; i++) {
            due("strike(1, 9999)", x.strike(1, 9999), 9999 * i);
        }
        due("strike(1, 100)", x.strike(1, 100), -1);
        due("spent(3)", x.spent(3), 18 + 9999000);
        due("has(0, 1, 0)", x.has(0, 1, 0), 999900);
        due("strike(1, 99)", x.strike(1, 99), 999999);
        due("strike(1, 1)", x.strike(1, 1), -1);
        due("strike(0, 1)", x.strike(0, 1), 14);
    }

    private static void burn() {
        CHECK.promise("Promise 11");
        CoinBoats x = Check.told(TWO);
        lay(x, 0, 0, 1, 2, 4, 8);
        lay(x, 1, 0, 1, 1, 1, 1);
        lay(x, 0, 1, 3, 3, 3, 3);
        due("burn(0, 4)", x.burn(0, 4), -1);
        due("burn(0, -1)", x.burn(0, -1), -1);
        due("burn(2, 0)", x.burn(2, 0), -1);
        due("burn(-1, 0)", x.burn(-1, 0), -1);
        due("burn(0, 2)", x.burn(0, 2), 12);
        pieces(x, 0, 0, 1, 2, 0, 0);
        due("burn(0, 3)", x.burn(0, 3), 0);
        due("burn(0, 1)", x.burn(0, 1), 2);
        due("burn(0, 0)", x.burn(0, 0), 1);
        due("burn(1, 3)", x.burn(1, 3), 3);
        due("burn(1, 0)", x.burn(1, 0), 9);
        pieces(x, 1, 0, 1, 1, 1, 1);
        due("spent(0)", x.spent(0), 0);
    }

    private static void lay() {
        CHECK.promise("Promise 12");
        CoinBoats x = Check.told(TWO);
        due("lay(0, 0, 0, 3)", x.lay(0, 0, 0, 3), 3);
        due("lay(0, 0, 0, 0)", x.lay(0, 0, 0, 0), 3);
        due("lay(0, 0, 0, 9999)", x.lay(0, 0, 0, 9999), 10002);
        due("lay(2, 1, 3, 4)", x.lay(2, 1, 3, 4), 4);
        due("lay(2, 1, 2, 5)", x.lay(2, 1, 2, 5), 5);
        due("lay(3, 0, 0, 1)", x.lay(3, 0, 0, 1), -1);
        due("lay(-1, 0, 0, 1)", x.lay(-1, 0, 0, 1), -1);
        due("lay(0, 2, 0, 1)", x.lay(0, 2, 0, 1), -1);
        due("lay(0, -1, 0, 1)", x.lay(0, -1, 0, 1), -1);
        due("lay(0, 0, 4, 1)", x.lay(0, 0, 4, 1), -1);
        due("lay(0, 0, -1, 1)", x.lay(0, 0, -1, 1), -1);
        due("lay(0, 0, 0, -1)", x.lay(0, 0, 0, -1), -1);
        due("lay(0, 0, 0, 10000)", x.lay(0, 0, 0, 10000), -1);
        due("spent(0)", x.spent(0), 0);
        for (int i = 1; i <= 100; i++) {
            x.lay(1, 1, 1, 9999);
        }
        due("lay(1, 1, 1, 100)", x.lay(1, 1, 1, 100), -1);
        due("lay(1, 1, 1, 99)", x.lay(1, 1, 1, 99), 999999);
        due("lay(1, 1, 1, 1)", x.lay(1, 1, 1, 1), -1);
        due("lay(1, 1, 1, 0)", x.lay(1, 1, 1, 0), 999999);
        due("lay(1, 1, 2, 9999)", x.lay(1, 1, 2, 9999), 9999);
        due("has(1, 1, -1)", x.has(1, 1, -1), 999999 + 9999);
    }

    private static void has() {
        CHECK.promise("Promise 13");
        CoinBoats x = Check.told(TWO);
        lay(x, 2, 1, 1, 20, 300, 4000);
        pieces(x, 2, 1, 1, 20, 300, 4000);
        due("has(2, 1, -1)", x.has(2, 1, -1), 4321);
        due("has(2, 1, NONE)", x.has(2, 1, CoinBoats.NONE), 4321);
        due("has(2, 0, -1)", x.has(2, 0, -1), 0);
        due("has(1, 1, -1)", x.has(1, 1, -1), 0);
        due("has(0, 1, 0)", x.has(0, 1, 0), 0);
        due("has(2, 1, -2)", x.has(2, 1, -2), -1);
        due("has(2, 1, 4)", x.has(2, 1, 4), -1);
        due("has(3, 1, 0)", x.has(3, 1, 0), -1);
        due("has(-1, 1, 0)", x.has(-1, 1, 0), -1);
        due("has(2, 2, 0)", x.has(2, 2, 0), -1);
        due("has(2, -1, 0)", x.has(2, -1, 0), -1);
    }

    private static void send() {
        CHECK.promise("Promise 14");
        CoinBoats x = Check.told(TWO);
        due("send(0, 1, 0, 1, false)", x.send(0, 1, 0, 1, false), 0);
        due("send(239, 2, 1, 9999, true)", x.send(239, 2, 1, 9999, true), 1);
        due("send(240, 1, 0, 1, false)", x.send(240, 1, 0, 1, false), -1);
        due("send(-1, 1, 0, 1, false)", x.send(-1, 1, 0, 1, false), -1);
        due("send(0, 0, 0, 1, false)", x.send(0, 0, 0, 1, false), -1);
        due("send(0, 3, 0, 1, false)", x.send(0, 3, 0, 1, false), -1);
        due("send(0, 1, 2, 1, false)", x.send(0, 1, 2, 1, false), -1);
        due("send(0, 1, -1, 1, false)", x.send(0, 1, -1, 1, false), -1);
        due("send(0, 1, 0, 0, false)", x.send(0, 1, 0, 0, false), -1);
        due("send(0, 1, 0, 10000, true)", x.send(0, 1, 0, 10000, true), -1);
        due("count(5)", x.count(5), 2);
        x.months(1, 2);
        due("send(1, 1, 0, 1, false)", x.send(1, 1, 0, 1, false), -1);
        due("send(2, 1, 0, 1, false)", x.send(2, 1, 0, 1, false), 2);
        for (int i = 3; i < 40; i++) {
            due("send(9, 1, 0, 1, false)", x.send(9, 1, 0, 1, false), i);
        }
        due("a 41st", x.send(9, 1, 0, 1, false), -1);
        due("count(5)", x.count(5), 40);
        due("done(39)", x.done(39), -2);
        due("done(40)", x.done(40), -1);
    }

    private static void reasons() {
        CHECK.promise("Promise 15");
        CoinBoats x = Check.told(TWO + "boat i 0 20 7;boat j 0 999 100 fails 10;boat i 2 9 1;");
        x.strike(0, 11);
        x.lay(1, 1, 0, 12);
        x.send(0, 1, 0, 6, false);
        x.send(0, 1, 0, 5, false);
        x.send(0, 1, 1, 8, true);
        x.send(0, 1, 1, 1, true);
        x.send(0, 2, 0, 9999, false);
        x.send(1, 1, 0, 99, false);
        x.send(2, 1, 0, 99, false);
        x.send(2, 1, 1, 9, false);
        x.send(2, 1, 1, 9, true);
        due("done(0) ahead", x.done(0), -2);
        due("done(9)", x.done(9), -1);
        due("done(-1)", x.done(-1), -1);
        x.months(1, 1);
        due("12 of 20", x.done(0), 0);
        due("22 of 20", x.done(1), 3);
        due("20 of 20, BACK", x.done(2), 0);
        due("21 of 20", x.done(3), 3);
        due("a BOAT that FAILS, with too little ROOM, nothing there", x.done(4), 2);
        due("its TIME not yet", x.done(5), -2);
        due("has(0, 0, -1)", x.has(0, 0, -1), 5);
        due("has(1, 0, -1)", x.has(1, 0, -1), 6);
        due("has(0, 1, -1)", x.has(0, 1, -1), 8);
        due("has(1, 1, -1)", x.has(1, 1, -1), 4);
        due("spent(2)", x.spent(2), 7);
        x.months(1, 2);
        due("no BOAT", x.done(5), 1);
        due("198 of 9, nothing there", x.done(6), 3);
        due("9 of 9, 8 there", x.done(7), 4);
        due("9 of 9, 4 there", x.done(8), 4);
        due("spent(2)", x.spent(2), 7);
        due("has(0, 1, -1)", x.has(0, 1, -1), 8);
    }

    private static void wornFirst() {
        CHECK.promise("Term II, SENDINGS");
        CoinBoats x = Check.told(TWO + "boat i 0 999 7;boat j 0 999 1;");
        lay(x, 0, 0, 3, 2, 5, 1);
        lay(x, 2, 0, 4, 3, 2, 1);
        x.send(0, 1, 0, 7, false);
        x.send(0, 2, 0, 5, true);
        x.months(3, 1);
        pieces(x, 1, 0, 3, 2, 2, 0);
        pieces(x, 2, 0, 4, 1, 0, 0);
        pieces(x, 0, 0, 0, 2, 5, 2);
        due("spent(2)", x.spent(2), 8);
        x = Check.told(TWO + "boat i 0 999 7;boat i 1 999 8;");
        x.lay(0, 0, 1, 4);
        x.send(0, 1, 0, 4, false);
        x.send(0, 1, 0, 4, true);
        x.send(12, 1, 0, 4, false);
        x.months(3, 1);
        due("there and back", x.has(0, 0, 1), 4);
        due("a BOAT costs once", x.spent(2), 7);
        x.months(3, 12);
        due("month 0 of the next year", x.done(2), 0);
        due("spent(2)", x.spent(2), 14);
        due("has(1, 0, 1)", x.has(1, 0, 1), 4);
    }

    private static void judge() {
        CHECK.promise("Promises 16, 17");
        CoinBoats x = Check.told(TWO + "boat i 0 20 7 fails 10;boat j 2 999 1 fails 10;boat i 3 50 1;");
        due("judge()", x.judge(), -2);
        due("why()", x.why(), 0);
        x.strike(0, 10);
        x.send(12, 1, 0, 11, false);
        due("judge()", x.judge(), 0);
        due("why()", x.why(), 3);
        x.send(3, 1, 0, 6, true);
        due("TIME by TIME", x.judge(), 1);
        due("why()", x.why(), 4);
        x.send(0, 1, 0, 6, false);
        due("what came is there", x.judge(), 0);
        due("why()", x.why(), 3);
        x.send(1, 1, 0, 1, false);
        due("no BOAT", x.judge(), 3);
        due("why()", x.why(), 1);
        due("nothing happened", x.has(0, 0, -1), 10);
        due("done(3)", x.done(3), -2);
        due("done(2)", x.done(2), -2);
        x.months(1, 1);
        due("done(2)", x.done(2), 2);
        due("judge()", x.judge(), 3);
        x.months(1, 1);
        due("judge() of what is not gone by", x.judge(), 1);
        due("why()", x.why(), 4);
        x.lay(1, 0, 3, 6);
        due("judge()", x.judge(), 0);
        due("why()", x.why(), 3);
        x.months(1, 11);
        due("judge()", x.judge(), -2);
        due("why()", x.why(), 0);
    }

    private static void judgedApart() {
        CHECK.promise("Promises 16, 17");
        CoinBoats x = Check.told(TWO + "flow house i a=99;lost i a=99;boat i 0 20 1;boat i 1 20 1 fails 10;");
        x.lay(0, 0, 0, 10);
        x.send(0, 1, 0, 5, false);
        x.send(1, 1, 0, 5, false);
        due("no FLOW, no BOAT that FAILS", x.judge(), -2);
        due("why()", x.why(), 0);
        x.send(1, 1, 0, 5, true);
        x.send(1, 1, 0, 1, true);
        due("ROOM both ways", x.judge(), 3);
        due("why()", x.why(), 3);
        x = Check.told(TWO + "boat i 11 2 1;");
        x.lay(0, 0, 0, 10);
        x.send(239, 1, 0, 1, false);
        due("the last TIME", x.judge(), -2);
        x.send(239, 1, 0, 1, false);
        due("judge()", x.judge(), 1);
        for (int i = 0; i < 10; i++) {
            x.months(1, 24);
        }
        due("done(0)", x.done(0), 0);
        due("done(1)", x.done(1), 3);
        due("judge() at the end", x.judge(), -2);
        due("why() at the end", x.why(), 0);
    }

    private static void order() {
        CHECK.promise("Promise 18");
        CoinBoats x = Check.told("kind a 1 1 0;island i 60 1;island j 60 2;boat i 0 100 5;flow i j a=has/2;"
            + "wear a=has;lost j a=1;want i a=10;want j a=10;");
        x.lay(0, 0, 0, 8);
        x.send(0, 1, 0, 8, false);
        due("months(1, 1)", x.months(1, 1), 6 + 7);
        pieces(x, 1, 0, 0, 4, 0, 0);
        pieces(x, 2, 0, 0, 3, 0, 0);
        due("spent(0)", x.spent(0), 5 + 6 + 14);
        due("months(1, 2)", x.months(1, 2), 8 + 6 + 9 + 6);
        pieces(x, 1, 0, 0, 0, 0, 1);
        pieces(x, 2, 0, 0, 0, 0, 4);
        due("lacks(1, 0)", x.lacks(1, 0), 6 + 8 + 9);
        due("lacks(2, 0)", x.lacks(2, 0), 7 + 6 + 6);
        due("spent(1)", x.spent(1), 23 + 38);
        due("months(1, 0)", x.months(1, 0), -1);
        due("months(1, -1)", x.months(1, -1), -1);
        due("months(1, 25)", x.months(1, 25), -1);
        due("count(7)", x.count(7), 3);
    }

    private static void flows() {
        CHECK.promise("Promise 18, FLOWS");
        CoinBoats x = Check.told(TWO + "flow i j a=4;flow j house a=[month==1]*has;flow i j b=0-5;flow house i b=99;"
            + "flow house i b=1;flow i j a=worn;");
        lay(x, 1, 0, 5, 4, 0, 2);
        lay(x, 0, 1, 1, 2, 0, 0);
        x.lay(1, 1, 0, 9);
        x.months(1, 1);
        pieces(x, 1, 0, 5, 2, 0, 0);
        pieces(x, 2, 0, 0, 2, 0, 2);
        pieces(x, 0, 0, 0, 0, 0, 0);
        pieces(x, 1, 1, 10, 2, 0, 0);
        pieces(x, 0, 1, 0, 0, 0, 0);
        x.months(1, 1);
        pieces(x, 1, 0, 3, 0, 0, 0);
        pieces(x, 2, 0, 0, 0, 0, 0);
        pieces(x, 0, 0, 2, 4, 0, 2);
        x = Check.told(TWO + "flow i j a=1;flow i j a=1;flow i j a=has-1;");
        x.lay(1, 0, 0, 9);
        x.months(1, 1);
        due("all FLOWS of the same two", x.has(1, 0, 0), 1);
        due("count(3)", x.count(3), 3);
    }

    private static void wears() {
        CHECK.promise("Promise 18, WEARS");
        CoinBoats x = Check.told(TWO + "wear a=9;wear a=1+worn;wear b=has/2;");
        lay(x, 0, 0, 5, 5, 5, 5);
        lay(x, 1, 0, 5, 5, 5, 5);
        lay(x, 2, 0, 0, 1, 1, 0);
        lay(x, 2, 1, 5, 5, 5, 5);
        x.months(1, 1);
        pieces(x, 0, 0, 5, 5, 5, 5);
        pieces(x, 1, 0, 4, 4, 4, 8);
        pieces(x, 2, 0, 0, 0, 1, 1);
        pieces(x, 2, 1, 3, 5, 5, 7);
        x = Check.told(TWO + "wear a=month-2;wear b=99;");
        lay(x, 1, 0, 5, 5, 5, 5);
        lay(x, 1, 1, 5, 5, 5, 5);
        x.months(1, 1);
        pieces(x, 1, 0, 5, 5, 5, 5);
        pieces(x, 1, 1, 0, 5, 5, 10);
        x.months(1, 3);
        pieces(x, 1, 0, 4, 5, 5, 6);
        pieces(x, 1, 1, 0, 0, 0, 20);
    }

    private static void losses() {
        CHECK.promise("Promise 18, LOSSES");
        CoinBoats x = Check.told(TWO + "lost i a=9;lost i a=3;lost j a=has/2+worn*9+noise*9;lost i b=0-1;lost j b=99;");
        lay(x, 1, 0, 5, 4, 1, 1);
        lay(x, 2, 0, 2, 0, 0, 2);
        lay(x, 0, 0, 1, 1, 1, 1);
        lay(x, 1, 1, 3, 0, 0, 0);
        lay(x, 2, 1, 3, 3, 3, 3);
        x.months(1, 1);
        pieces(x, 1, 0, 5, 3, 0, 0);
        pieces(x, 2, 0, 2, 0, 0, 0);
        pieces(x, 0, 0, 1, 1, 1, 1);
        pieces(x, 1, 1, 3, 0, 0, 0);
        pieces(x, 2, 1, 0, 0, 0, 0);
        due("count(10)", x.count(10), 5);
        x = Check.told(TWO + "lost i a=month;");
        x.lay(1, 0, 0, 9);
        x.months(1, 4);
        due("0, 1, 2, 3 lost", x.has(1, 0, 0), 3);
    }

    private static int lot(int n, int seed, int which) {
        int h = (seed ^ 15) * 1103515245 + 12345;
        h = h ^ h >>> 15;
        h = (h ^ which) * 1103515245 + 12345;
        h = h ^ h >>> 15;
        return (h >>> 1) % n;
    }

    private static final int[] SEEDS = {0, 1, 7, -1, 1234567, Integer.MIN_VALUE, Integer.MAX_VALUE, -987654321};

    private static void noise() {
        CHECK.promise("LOTS of FLOWS");
        for (int seed : SEEDS) {
            CoinBoats x = Check.told(TWO + "flow house i a=noise;flow house j a=noise;flow house j b=10*noise+month;");
            x.lay(0, 0, 0, 99);
            x.lay(0, 1, 0, 999);
            int i = 0;
            int j = 0;
            int b = 0;
            for (int t = 0; t < 14; t++) {
                x.months(seed, 1);
                i += lot(5, seed, 1000 + 40 * t);
                j += lot(5, seed, 1001 + 40 * t);
                b += 10 * lot(5, seed, 1002 + 40 * t) + t % 12;
                due("LOT of FLOW 0, " + seed + ", " + t, x.has(1, 0, 0), i);
                due("LOT of FLOW 1, " + seed + ", " + t, x.has(2, 0, 0), j);
                due("LOT of FLOW 2, " + seed + ", " + t, x.has(2, 1, 0), b);
            }
        }
        // Worked out with another language's whole numbers.
        due("LOT 5 of 1, 1000", lot(5, 1, 1000), 4);
        due("LOT 5 of 7, 1041", lot(5, 7, 1041), 1);
        due("LOT 10 of -1, 40", lot(10, -1, 40), 1);
        due("LOT 5 of 123456789, 10571", lot(5, 123456789, 10571), 3);
    }

    private static void failing() {
        CHECK.promise("LOTS of BOATS");
        int[] failed = new int[11];
        for (int seed = 1; seed <= 60; seed++) {
            CoinBoats x = Check.told(TWO + "boat j 0 99 3;boat i 0 99 5 fails " + seed % 11 + ";");
            x.lay(0, 0, 0, 99);
            x.send(0, 1, 0, 1, false);
            x.send(12, 1, 0, 1, false);
            x.months(seed * 77, 13);
            for (int n = 0; n < 2; n++) {
                boolean fails = lot(10, seed * 77, 40 * 12 * n + 1) < seed % 11;
                due("done(" + n + ") of SEED " + seed * 77, x.done(n), fails ? 2 : 0);
                failed[seed % 11] += fails ? 1 : 0;
            }
            due("spent(2)", x.spent(2), 5 * x.has(1, 0, -1));
        }
        due("FAILS 0", failed[0], 0);
        due("FAILS 5 at times", failed[5] > 0 && failed[5] < 12 ? 1 : 0, 1);
    }

    private static void lacks() {
        CHECK.promise("Promises 19, 20");
        CoinBoats x = Check.told(TWO + "want i a=99;want i a=month+3;want j b=9999+1;want i b=0-7;want j a=2;");
        x.lay(1, 0, 3, 1);
        x.lay(2, 0, 0, 5);
        x.strike(0, 4);
        due("months(5, 1)", x.months(5, 1), 2 + 9999);
        due("months(5, 2)", x.months(5, 2), 3 + 4 + 2 * 9999);
        due("lacks(1, 0)", x.lacks(1, 0), 9);
        due("lacks(2, 1)", x.lacks(2, 1), 3 * 9999);
        due("lacks(1, 1)", x.lacks(1, 1), 0);
        due("lacks(2, 0)", x.lacks(2, 0), 0);
        due("lacks(0, 0)", x.lacks(0, 0), -1);
        due("lacks(3, 0)", x.lacks(3, 0), -1);
        due("lacks(1, 2)", x.lacks(1, 2), -1);
        due("lacks(1, -1)", x.lacks(1, -1), -1);
        due("spent(0)", x.spent(0), 9 * 4 + 3L * 9999 * 9 + 12);
        due("spent(1)", x.spent(1), 9 * 4 + 3L * 9999 * 9);
        due("spent(2)", x.spent(2), 0);
        due("spent(3)", x.spent(3), 12);
        due("spent(4)", x.spent(4), -1);
        due("spent(-1)", x.spent(-1), -1);
        x = Check.told("kind a 1 1 0;kind b 1 1 0;kind c 1 1 0;island i 1 99;island j 1 99;island k 1 99;island l 1 99;"
            + "want i a=9999;want j a=9999;want k a=9999;want l a=9999;want i b=9999;want j b=9999;want k b=9999;"
            + "want l b=9999;want i c=9999;want j c=9999;want k c=9999;want l c=9999;");
        for (int i = 0; i < 10; i++) {
            due("months(0, 24)", x.months(0, 24), 24 * 12 * 9999);
        }
        due("SPENT beyond 32 bits", x.spent(0), 240L * 12 * 9999 * 99);
        due("SPENT beyond 32 bits", x.spent(1), 240L * 12 * 9999 * 99);
        due("lacks(4, 2)", x.lacks(4, 2), 240 * 9999);
    }

    private static void time() {
        CHECK.promise("Promise 18, TIME");
        CoinBoats x = Check.told(TWO);
        for (int i = 1; i <= 9; i++) {
            x.months(1, 24);
        }
        x.months(1, 23);
        due("count(7)", x.count(7), 239);
        due("months(1, 2)", x.months(1, 2), -1);
        due("count(7)", x.count(7), 239);
        due("send(239, 1, 0, 1, false)", x.send(239, 1, 0, 1, false), 0);
        due("judge()", x.judge(), 0);
        due("months(1, 1)", x.months(1, 1), 0);
        due("count(7)", x.count(7), 240);
        due("done(0)", x.done(0), 1);
        due("judge()", x.judge(), -2);
        due("months(1, 1)", x.months(1, 1), -1);
        due("send(239, 1, 0, 1, false)", x.send(239, 1, 0, 1, false), -1);
        due("send(240, 1, 0, 1, false)", x.send(240, 1, 0, 1, false), -1);
    }
}
