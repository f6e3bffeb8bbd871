/** Promises 21 to 30: paying, change, WHICH KINDS, LEAST COIN, POOLS. */
public final class CoinPromisesTest {
    private static final Check CHECK = new Check();

    public static void main(String[] args) {
        pay();
        payAlike();
        payLarge();
        change();
        changeEdges();
        which();
        least();
        leastByChance();
        leastWrong();
        orders();
        pool();
        holds();
        CHECK.finish();
    }

    private static void due(String call, long got, long want) {
        CHECK.due(call, got, want);
    }

    private static void paid(CoinBoats x, int place, int sum, int... want) {
        int pieces = 0;
        for (int kind = 0; kind < want.length; kind++) {
            due("pay(" + place + ", " + sum + ", " + (10 + kind) + ")", x.pay(place, sum, 10 + kind), want[kind]);
            pieces += want[kind];
        }
        due("pay(" + place + ", " + sum + ", 0)", x.pay(place, sum, 0), pieces);
    }

    private static void pay() {
        CHECK.promise("Promise 21");
        CoinBoats x = Check.told("kind a 1 1 1;kind b 4 1 1;kind c 6 1 1;island i 1 1;");
        x.lay(0, 0, 0, 2);
        x.lay(0, 0, 3, 1);
        x.lay(0, 1, 1, 5);
        x.lay(0, 2, 2, 1);
        x.lay(1, 1, 0, 1);
        paid(x, 0, 8, 0, 2, 0);
        paid(x, 0, 6, 0, 0, 1);
        paid(x, 0, 7, 1, 0, 1);
        paid(x, 0, 12, 0, 3, 0);
        paid(x, 0, 3, 3, 0, 0);
        paid(x, 0, 29, 3, 5, 1);
        due("pay(0, 30, 0)", x.pay(0, 30, 0), -2);
        due("pay(0, 30, 10)", x.pay(0, 30, 10), -2);
        paid(x, 1, 4, 0, 1, 0);
        due("pay(1, 1, 0)", x.pay(1, 1, 0), -2);
        due("pay(0, 2000, 0)", x.pay(0, 2000, 0), -2);
        due("pay(0, 2001, 0)", x.pay(0, 2001, 0), -1);
        due("pay(0, 0, 0)", x.pay(0, 0, 0), -1);
        due("pay(0, -1, 0)", x.pay(0, -1, 0), -1);
        due("pay(2, 4, 0)", x.pay(2, 4, 0), -1);
        due("pay(-1, 4, 0)", x.pay(-1, 4, 0), -1);
        for (int what : new int[] {-1, 1, 9, 13, 20, Integer.MIN_VALUE, Integer.MAX_VALUE}) {
            due("pay(0, 8, " + what + ")", x.pay(0, 8, what), -1);
            due("pay(0, 30, " + what + ")", x.pay(0, 30, what), -1);
        }
    }

    private static void payAlike() {
        // 10 is 5 + 5, 4 + 6, 7 + 3: of alike ones the most of the first KIND.
        CoinBoats x = Check.told("kind a 7 1 1;kind b 5 1 1;kind c 4 1 1;kind d 3 1 1;kind e 6 1 1;kind f 5 1 1;");
        for (int kind = 1; kind < 6; kind++) {
            x.lay(0, kind, 0, 2);
        }
        paid(x, 0, 10, 0, 2, 0, 0, 0, 0);
        x.lay(0, 0, 0, 1);
        paid(x, 0, 10, 1, 0, 0, 1, 0, 0);
        paid(x, 0, 5, 0, 1, 0, 0, 0, 0);
        paid(x, 0, 20, 1, 2, 0, 1, 0, 0);
        paid(x, 0, 22, 1, 2, 0, 0, 0, 1);
        paid(x, 0, 15, 1, 1, 0, 1, 0, 0);
        paid(x, 0, 12, 1, 1, 0, 0, 0, 0);
        x.burn(0, 0);
        paid(x, 0, 12, 0, 0, 0, 0, 2, 0);
    }

    private static void payLarge() {
        CoinBoats x = Check.told("kind a 1 1 1;kind b 500 1 1;kind c 2 1 1;");
        x.lay(0, 0, 0, 9999);
        paid(x, 0, 2000, 2000, 0, 0);
        x.lay(0, 1, 0, 3);
        paid(x, 0, 2000, 500, 3, 0);
        x.lay(0, 2, 0, 100);
        paid(x, 0, 2000, 300, 3, 100);
        paid(x, 0, 1999, 299, 3, 100);
        x.lay(0, 1, 0, 9999);
        paid(x, 0, 2000, 0, 4, 0);
        paid(x, 0, 1999, 299, 3, 100);
        x = Check.told("kind a 3 1 1;kind b 499 1 1;");
        x.lay(0, 0, 0, 665);
        x.lay(0, 1, 0, 1);
        paid(x, 0, 1995, 665, 0);
        due("pay(0, 1998, 0)", x.pay(0, 1998, 0), -2);
        due("pay(0, 1994, 0)", x.pay(0, 1994, 0), -2);
        paid(x, 0, 1990, 497, 1);
    }

    private static void changed(CoinBoats x, int sum, int h, int[] given, int[] comes) {
        int pieces = 0;
        for (int kind = 0; kind < given.length; kind++) {
            String call = "change(0, " + sum + ", " + h + ", ";
            due(call + (10 + kind) + ")", x.change(0, sum, h, 10 + kind), given[kind]);
            due(call + (20 + kind) + ")", x.change(0, sum, h, 20 + kind), comes[kind]);
            pieces += given[kind] + comes[kind];
        }
        due("change(0, " + sum + ", " + h + ", 0)", x.change(0, sum, h, 0), pieces);
    }

    private static int[] of(int... row) {
        return row;
    }

    private static void change() {
        CHECK.promise("Promise 22");
        CoinBoats x = Check.told("kind a 1 1 1;kind b 10 1 1;kind c 50 1 1;");
        changed(x, 9, 9, of(9, 0, 0), of(0, 0, 0));
        x.lay(0, 0, 0, 1);
        changed(x, 9, 9, of(0, 1, 0), of(1, 0, 0));
        x.lay(0, 1, 2, 2);
        changed(x, 30, 2, of(0, 0, 1), of(0, 2, 0));
        changed(x, 30, 3, of(0, 3, 0), of(0, 0, 0));
        changed(x, 40, 4, of(0, 0, 1), of(0, 1, 0));
        changed(x, 119, 9, of(0, 2, 2), of(1, 0, 0));
        changed(x, 549, 9, of(9, 9, 9), of(0, 0, 0));
        due("change(0, 550, 9, 0)", x.change(0, 550, 9, 0), -2);
        due("change(0, 550, 9, 10)", x.change(0, 550, 9, 10), -2);
        due("change(0, 1, 0, 0)", x.change(0, 1, 0, 0), -2);
        // 6 is 5 + 1, or 5 + 5 - 4; 8 is 9 - 1, 4 + 4: alike, the least is given.
        x = Check.told("kind a 1 1 1;kind b 9 1 1;kind c 4 1 1;");
        x.lay(0, 0, 0, 9);
        changed(x, 8, 2, of(0, 0, 2), of(0, 0, 0));
        changed(x, 8, 1, of(0, 1, 0), of(1, 0, 0));
        // Alike on each side: the most of KIND 0, then 1.
        x = Check.told("kind a 20 1 1;kind b 6 1 1;kind c 7 1 1;kind d 5 1 1;kind e 20 1 1;kind f 8 1 1;");
        for (int kind = 1; kind < 6; kind++) {
            x.lay(0, kind, 0, 2);
        }
        x.burn(4, 0);
        changed(x, 8, 1, of(0, 0, 0, 0, 0, 1), of(0, 0, 0, 0, 0, 0));
        changed(x, 40, 1, of(1, 0, 0, 0, 1, 0), of(0, 0, 0, 0, 0, 0));
        x.burn(5, 0);
        // 29 is 20 + 20 - 6 - 5, 20 + 8 + 6 - 5, 20 + 7 + 8 - 6: four pieces, 34 is the least given.
        changed(x, 29, 1, of(1, 1, 0, 0, 0, 1), of(0, 0, 0, 1, 0, 0));
    }

    private static void changeEdges() {
        CoinBoats x = Check.told("kind a 500 1 1;kind b 1 1 1;kind c 499 1 1;");
        x.lay(0, 0, 0, 9);
        x.lay(0, 2, 0, 9);
        x.lay(0, 1, 0, 99);
        changed(x, 2000, 4, of(4, 0, 0), of(0, 0, 0));
        changed(x, 1997, 4, of(1, 0, 3), of(0, 0, 0));
        changed(x, 4, 4, of(0, 4, 0), of(0, 0, 0));
        changed(x, 4, 3, of(1, 3, 0), of(0, 0, 1));
        // What is given is 4000 at most: 8 of 500; 8 * 500 - 8 * 499 would be 8.
        x = Check.told("kind a 500 1 1;kind b 499 1 1;");
        x.lay(0, 1, 0, 20);
        changed(x, 8, 8, of(8, 0), of(0, 8));
        due("change(0, 9, 9, 0)", x.change(0, 9, 9, 0), -2);
        due("change(0, 8, 7, 0)", x.change(0, 8, 7, 0), -2);
        x.burn(1, 0);
        x.lay(0, 1, 0, 7);
        due("change(0, 8, 8, 0)", x.change(0, 8, 8, 0), -2);
        changed(x, 7, 8, of(7, 0), of(0, 7));
        // 1 is 8 * 500 - 93 * 43 alone.
        x = Check.told("kind a 500 1 1;kind b 43 1 1;");
        x.lay(0, 1, 0, 93);
        changed(x, 1, 8, of(8, 0), of(0, 93));
        due("change(0, 1, 7, 0)", x.change(0, 1, 7, 0), -2);
        x.burn(1, 0);
        x.lay(0, 1, 0, 92);
        due("change(0, 1, 8, 0)", x.change(0, 1, 8, 0), -2);
        // 151 is 8 * 490 + 3 * 27 - 14 * 275 alone: 4001 would be given.
        CoinBoats z = Check.told("kind a 490 1 1;kind b 275 1 1;kind c 27 1 1;");
        z.lay(0, 1, 0, 99);
        due("change(0, 151, 8, 0)", z.change(0, 151, 8, 0), -2);
        due("change(0, 0, 1, 0)", x.change(0, 0, 1, 0), -1);
        due("change(0, 2001, 1, 0)", x.change(0, 2001, 1, 0), -1);
        due("change(0, 1, -1, 0)", x.change(0, 1, -1, 0), -1);
        due("change(0, 1, 10, 0)", x.change(0, 1, 10, 0), -1);
        due("change(1, 1, 1, 0)", x.change(1, 1, 1, 0), -1);
        due("change(-1, 1, 1, 0)", x.change(-1, 1, 1, 0), -1);
        for (int what : new int[] {-1, 1, 9, 12, 15, 19, 22, 30, Integer.MIN_VALUE, Integer.MAX_VALUE}) {
            due("change(0, 7, 8, " + what + ")", x.change(0, 7, 8, what), -1);
        }
        x = new CoinBoats();
        due("change(0, 5, 9, 0)", x.change(0, 5, 9, 0), -2);
        due("change(0, 5, 9, 10)", x.change(0, 5, 9, 10), -1);
        due("change(0, 5, 9, 20)", x.change(0, 5, 9, 20), -1);
        due("pay(0, 5, 10)", x.pay(0, 5, 10), -1);
    }

    private static void which() {
        CHECK.promise("Promises 23, 24");
        CoinBoats x = Check.told("kind a 3 1 1;kind b 1 1 1;kind c 4 1 1;kind d 1 1 1;");
        // Of 1 .. 6 with 1, 3: 1 2 1 2 3 2, with 1, 4: 1 2 3 1 2 3, with 1, 3, 4: 1 2 1 1 2 2, with 1: 21.
        due("which(6, 0)", x.which(6, 0), 7);
        due("whichSum(6, 0)", x.whichSum(6, 0), 9);
        due("which(6, 1)", x.which(6, 1), 7);
        due("whichSum(6, 1)", x.whichSum(6, 1), 12);
        due("which(6, 2)", x.which(6, 2), 3);
        due("whichSum(6, 2)", x.whichSum(6, 2), 15);
        due("which(6, 9)", x.which(6, 9), 3);
        due("whichSum(6, 9)", x.whichSum(6, 9), 29);
        due("which(6, 10)", x.which(6, 10), 2);
        due("whichSum(6, 10)", x.whichSum(6, 10), 31);
        due("which(1, 0)", x.which(1, 0), 2);
        due("whichSum(1, 99)", x.whichSum(1, 99), 100);
        due("which(400, 99)", x.which(400, 99), 7);
        due("which(401, 0)", x.which(401, 0), -1);
        due("which(0, 0)", x.which(0, 0), -1);
        due("which(1, 100)", x.which(1, 100), -1);
        due("which(1, -1)", x.which(1, -1), -1);
        due("whichSum(401, 0)", x.whichSum(401, 0), -1);
        due("whichSum(0, 0)", x.whichSum(0, 0), -1);
        due("whichSum(1, 100)", x.whichSum(1, 100), -1);
        due("whichSum(1, -1)", x.whichSum(1, -1), -1);
        x = Check.told("kind a 1 1 1;");
        due("whichSum(400, 99)", x.whichSum(400, 99), 80200 + 99);
        due("which(400, 99)", x.which(400, 99), 1);
        x = Check.told("kind a 2 1 1;kind b 3 1 1;");
        due("which(9, 9)", x.which(9, 9), -2);
        due("whichSum(9, 9)", x.whichSum(9, 9), -2);
        due("which(0, 9)", x.which(0, 9), -1);
        due("whichSum(9, 100)", x.whichSum(9, 100), -1);
    }

    private static void least() {
        CHECK.promise("Promises 25, 26, 27");
        // WANTED 6 in month 1, 9 in month 2; the BOAT of month 0 brings 7 at most by ROOM, SAFE 12, COST 10, NEW 2.
        CoinBoats x = Check.told("kind a 1 3 2;island i 12 5;want i a=[month==1]*6+[month==2]*9;boat i 0 23 10;");
        due("no BOAT, nothing WANTED", x.least(1, 0, 3, 1, 0, 0), 0);
        due("no BOAT, 6 WANTED", x.least(1, 0, 1, 1, 0, 0), 30);
        due("price", x.price(1, 0, 1, 1, 0, 0), 5);
        due("price at 5", x.price(1, 0, 1, 1, 5, 0), 5);
        due("price at 6", x.price(1, 0, 1, 1, 6, 0), 0);
        due("4 there", x.least(1, 0, 1, 1, 4, 0), 10);
        due("15 WANTED in all", x.least(1, 0, 1, 2, 4, 0), 10 + 45);
        due("7 brought", x.least(1, 0, 0, 3, 0, 0), 10 + 14 + 8 * 5);
        due("order", x.order(1, 0, 0, 3, 0, 0), 7);
        due("SAFE holds 12", x.order(1, 0, 0, 3, 6, 0), 6);
        due("least", x.least(1, 0, 0, 3, 6, 0), 10 + 12 + 3 * 5);
        due("three too few: COST is more than HARM", x.order(1, 0, 0, 3, 12, 0), 0);
        due("SAFE is full", x.least(1, 0, 0, 3, 12, 0), 15);
        due("a stock above SAFE", x.least(1, 0, 0, 3, 14, 0), 5);
        due("order", x.order(1, 0, 0, 3, 60, 0), 0);
        due("price above SAFE", x.price(1, 0, 0, 3, 14, 0), 5);
        due("price", x.price(1, 0, 0, 3, 0, 0), 5);
        due("price where the BOAT stays", x.price(1, 0, 0, 3, 8, 0), 10 + 8 + 15 - 30);
        due("round the year", x.least(1, 0, 11, 4, 0, 0), 10 + 14 + 8 * 5);
        due("order of a month without a BOAT", x.order(1, 0, 11, 4, 0, 0), 0);
        due("the BOAT behind the months", x.least(1, 0, 2, 10, 0, 0), 45);
        due("12 months", x.least(1, 0, 1, 12, 0, 0), 75);
        due("q 60", x.least(1, 0, 1, 12, 60, 0), 0);
        due("FAILS don't matter", Check.told("kind a 1 1 0;island i 9 9;want i a=1;boat i 0 9 0 fails 10;")
            .least(1, 0, 0, 1, 0, 0), 0);
    }

    private static void leastByChance() {
        // WANTED 2 or 3; HARM 6, NEW 2, COST 3.
        CoinBoats x = Check.told("kind a 1 1 2;island i 9 6;want i a=2;boat i 5 9 3;");
        due("d 1, none", x.least(1, 0, 4, 1, 0, 1), 12 + 18);
        due("d 1, a BOAT", x.least(1, 0, 5, 1, 0, 1), 2 * (3 + 6));
        due("order", x.order(1, 0, 5, 1, 0, 1), 3);
        due("d 3, none", x.least(1, 0, 4, 1, 0, 3), 12 + 18 + 24 + 30);
        // n 5: 4 * 13; n 4: 4 * 11 + 6; n 3: 4 * 9 + 18; n 2: 4 * 7 + 36.
        due("d 3, a BOAT", x.least(1, 0, 5, 1, 0, 3), 50);
        due("order", x.order(1, 0, 5, 1, 0, 3), 4);
        // In month 5: 2 or 3 are taken, then in month 6 2 or 3 of the rest: n 6: 4 * 15; n 5: 4 * 13 + 6; n 4: 4 * 11 + 6 * 4.
        due("two months", x.least(1, 0, 5, 2, 0, 1), 58);
        due("order", x.order(1, 0, 5, 2, 0, 1), 5);
        due("price", x.price(1, 0, 5, 2, 0, 1), 8);
        due("12 months of 4 ways, 24 and more WANTED", x.least(1, 0, 6, 11, 0, 3),
            (1L << 22) * 6 * 11 * 2 + (1L << 22) * 6 * 11 * 3 / 2);
        x = Check.told("kind a 1 1 1;island i 0 9;want i a=70;island j 60 9;want j a=70;boat j 0 999 1;");
        due("q 60 of 70", x.least(1, 0, 0, 1, 60, 0), 90);
        due("q 59 of 70", x.least(1, 0, 0, 1, 59, 0), 99);
        due("price of q 59", x.price(1, 0, 0, 1, 59, 0), 9);
        due("SAFE 60, q 59", x.least(2, 0, 0, 1, 59, 0), 2 + 90);
        due("SAFE 60, q 0", x.order(2, 0, 0, 1, 0, 0), 60);
        due("SAFE 60, q 60", x.least(2, 0, 0, 1, 60, 0), 90);
        x = Check.told("kind a 1 1 1;island i 0 99;want i a=9999;");
        due("the price of a new object's first call", x.price(1, 0, 0, 1, 0, 0), 99);
        due("the most", x.least(1, 0, 0, 12, 0, 3), 16777216L * 12 * 99 * 9999 + 16777216L / 4 * 12 * 99 * 6);
    }

    private static void leastWrong() {
        CoinBoats x = Check.told("kind a 1 1 2;island i 9 6;want i a=2;boat i 5 9 3;");
        int[][] wrong = {{0, 0, 0, 1, 0, 0}, {2, 0, 0, 1, 0, 0}, {-1, 0, 0, 1, 0, 0}, {1, 1, 0, 1, 0, 0},
            {1, -1, 0, 1, 0, 0}, {1, 0, -1, 1, 0, 0}, {1, 0, 12, 1, 0, 0}, {1, 0, 0, 0, 0, 0}, {1, 0, 0, 13, 0, 0},
            {1, 0, 0, 1, -1, 0}, {1, 0, 0, 1, 61, 0}, {1, 0, 0, 1, 0, -1}, {1, 0, 0, 1, 0, 4}};
        for (int[] w : wrong) {
            due("least of what is not", x.least(w[0], w[1], w[2], w[3], w[4], w[5]), -1);
            due("order of what is not", x.order(w[0], w[1], w[2], w[3], w[4], w[5]), -1);
            due("price of what is not", x.price(w[0], w[1], w[2], w[3], w[4], w[5]), -1);
        }
        due("price of q 60", x.price(1, 0, 0, 1, 60, 0), -1);
        due("price of q 59", x.price(1, 0, 0, 1, 59, 0), 0);
        due("least of q 60", x.least(1, 0, 0, 1, 60, 0), 0);
        due("q 60, 5 WANTED at most", x.least(1, 0, 6, 12, 60, 3), 0);
        due("q 59, 5 WANTED at most", x.least(1, 0, 6, 12, 59, 3), 6);
        due("price of q 59", x.price(1, 0, 6, 12, 59, 3), 6);
    }

    private static void orders() {
        // Alike ones: NEW is HARM, COST 0: bring nothing.
        CoinBoats x = Check.told("kind a 1 1 6;island i 60 6;want i a=5;boat i 0 999 0;boat i 1 4 1;");
        due("alike", x.order(1, 0, 0, 1, 0, 0), 0);
        due("least", x.least(1, 0, 0, 1, 0, 0), 30);
        x = Check.told("kind a 1 1 5;island i 60 6;want i a=5;boat i 0 999 0;boat i 1 4 1;");
        due("each saves 1", x.order(1, 0, 0, 1, 0, 0), 5);
        due("least", x.least(1, 0, 0, 1, 0, 0), 25);
        due("for the second month too", x.order(1, 0, 0, 2, 0, 0), 10);
        due("least", x.least(1, 0, 0, 2, 0, 0), 50);
        due("4 by ROOM, COST 1", x.order(1, 0, 1, 1, 0, 0), 4);
        due("least", x.least(1, 0, 1, 1, 0, 0), 21 + 6);
        due("saves 1, COST 1: alike", x.order(1, 0, 1, 1, 4, 0), 0);
        due("saves 2, COST 1", x.order(1, 0, 1, 1, 3, 0), 2);
        x = Check.told("kind a 1 20 0;island i 60 9;want i a=5;boat i 0 19 0;boat i 1 20 0;boat i 2 39 0;boat i 3 40 0;");
        due("ROOM 19 of 20", x.order(1, 0, 0, 1, 0, 0), 0);
        due("ROOM 20 of 20", x.order(1, 0, 1, 1, 0, 0), 1);
        due("ROOM 39 of 20", x.order(1, 0, 2, 1, 0, 0), 1);
        due("ROOM 40 of 20", x.order(1, 0, 3, 1, 0, 0), 2);
    }

    private static final String FOUR = "kind a 1 1 1;kind b 2 1 1;island i 9 4;island j 9 9;island k 9 2;island l 9 9;"
        + "want i a=10;want j a=5+month;want k a=3;want l a=1;want j b=2;";

    private static CoinBoats four() {
        CoinBoats x = Check.told(FOUR);
        x.lay(0, 0, 0, 500);
        x.lay(1, 0, 1, 12);
        x.lay(1, 0, 3, 1);
        x.lay(2, 0, 0, 1);
        x.lay(3, 0, 2, 5);
        return x;
    }

    private static void pool() {
        CHECK.promise("Promise 28");
        CoinBoats x = four();
        due("pool of none", x.pool(0, 0, 0), 0);
        due("pool of i", x.pool(0, 0, 1), 0);
        due("pool of j", x.pool(0, 0, 2), 36);
        due("pool of k", x.pool(0, 0, 4), 0);
        due("pool of l", x.pool(0, 0, 8), 9);
        // 14 for 5 at 9 and 10 at 4.
        due("pool of i, j", x.pool(0, 0, 3), 4);
        due("pool of i, j in month 2", x.pool(0, 2, 3), 4 * 3);
        // 19 for 6 at 9, 10 at 4, 3 at 2.
        due("pool of all", x.pool(0, 0, 15), 0);
        due("pool of all in month 3", x.pool(0, 3, 15), 2 * 3);
        due("pool of all in month 6", x.pool(0, 6, 15), 2 * 3 + 4 * 3);
        due("pool of j, l", x.pool(0, 0, 10), 45);
        due("pool of b", x.pool(1, 0, 15), 18);
        due("pool of b without j", x.pool(1, 0, 13), 0);
        due("pool(2, 0, 1)", x.pool(2, 0, 1), -1);
        due("pool(-1, 0, 1)", x.pool(-1, 0, 1), -1);
        due("pool(0, 12, 1)", x.pool(0, 12, 1), -1);
        due("pool(0, -1, 1)", x.pool(0, -1, 1), -1);
        due("pool(0, 0, 16)", x.pool(0, 0, 16), -1);
        due("pool(0, 0, -1)", x.pool(0, 0, -1), -1);
        CHECK.promise("Promise 29");
        due("saved by one", x.saved(0, 0, 2), 0);
        due("saved by i, j", x.saved(0, 0, 3), 32);
        due("pool of j, k", x.pool(0, 0, 6), 2 * 2);
        due("saved by j, k", x.saved(0, 0, 6), 36 - 2 * 2);
        due("saved by all", x.saved(0, 0, 15), 45);
        due("saved by all in month 6", x.saved(0, 6, 15), 10 * 9 + 9 - 18);
        due("saved by none", x.saved(0, 0, 0), 0);
        due("saved(0, 0, 16)", x.saved(0, 0, 16), -1);
        due("saved(0, 0, -1)", x.saved(0, 0, -1), -1);
        due("saved(2, 0, 1)", x.saved(2, 0, 1), -1);
        due("saved(0, 12, 1)", x.saved(0, 12, 1), -1);
        x = Check.told("kind a 1 1 1;island i 9 4;");
        due("one island alone", x.pool(0, 0, 1), 0);
        due("an island that there is not", x.pool(0, 0, 2), -1);
        due("an island that there is not", x.saved(0, 0, 2), -1);
    }

    private static void holds() {
        CHECK.promise("Promise 30");
        CoinBoats x = four();
        // Month 0 saves: i, j 32; i, l 9; j, k 32; k, l 9; i, j, k 36; i, j, l: 3 left for 4 + 1: 41 - 4 * 2 = 45 - 8.
        due("i, j saved", x.saved(0, 0, 3), 32);
        due("i, j, l saved", x.saved(0, 0, 11), 37);
        due("nothing for all", x.holds(0, 0, 0, 0, 0, 0), 3);
        due("i, j have 32", x.holds(0, 0, 16, 16, 0, 0), 6);
        due("j has 31", x.holds(0, 0, 0, 31, 0, 0), 3);
        due("j has 32", x.holds(0, 0, 0, 32, 0, 0), 7);
        due("j has 36", x.holds(0, 0, 0, 36, 0, 0), 9);
        due("i has 9, j 36", x.holds(0, 0, 9, 36, 0, 0), 12);
        due("j 36, l 8", x.holds(0, 0, 0, 36, 0, 8), 9);
        due("j 36, l 9", x.holds(0, 0, 0, 36, 0, 9), 0);
        due("j 37, l 9: more than they save", x.holds(0, 0, 0, 37, 0, 9), 16);
        due("j 37, l 8", x.holds(0, 0, 0, 37, 0, 8), 9);
        due("all the most", x.holds(0, 0, Integer.MAX_VALUE, Integer.MAX_VALUE, Integer.MAX_VALUE, Integer.MAX_VALUE), 16);
        due("a -1", x.holds(0, 0, -1, 99, 99, 99), -1);
        due("b -1", x.holds(0, 0, 99, -1, 99, 99), -1);
        due("c -1", x.holds(0, 0, 99, 99, -1, 99), -1);
        due("d -1", x.holds(0, 0, 99, 99, 99, -1), -1);
        due("holds(2, ..)", x.holds(2, 0, 9, 9, 9, 9), -1);
        due("holds(-1, ..)", x.holds(-1, 0, 9, 9, 9, 9), -1);
        due("month 12", x.holds(0, 12, 9, 9, 9, 9), -1);
        due("month -1", x.holds(0, -1, 9, 9, 9, 9), -1);
        x = Check.told("kind a 1 1 1;island i 9 4;island j 9 9;want i a=1;want j a=1;");
        x.lay(1, 0, 0, 1);
        due("those that there are not", x.holds(0, 0, 5, 0, 77, 88), 0);
        due("those that there are not", x.holds(0, 0, 0, 5, -7, -8), 0);
        due("those that there are not", x.holds(0, 0, 0, 4, 99, 99), 3);
        due("those that there are not", x.holds(0, 0, 0, 6, 0, 0), 16);
        due("a -1 of two", x.holds(0, 0, -1, 9, 0, 0), -1);
        due("b -1 of two", x.holds(0, 0, 9, -1, 0, 0), -1);
        x = Check.told("kind a 1 1 1;island i 9 4;want i a=1;");
        due("one alone saves nothing", x.holds(0, 0, 0, -1, -1, -1), 0);
        due("a 1 of one", x.holds(0, 0, 1, 0, 0, 0), 16);
        due("a -1 of one", x.holds(0, 0, -1, 0, 0, 0), -1);
        x = Check.told("kind a 1 1 1;");
        due("no islands", x.holds(0, 0, -1, -1, -1, -1), 0);
        x = Check.told("kind a 1 1 1;island i 9 4;island j 9 9;island k 9 2;want k a=2;");
        x.lay(1, 0, 0, 1);
        due("c of three", x.holds(0, 0, 0, 0, 2, -9), 0);
        due("c -1 of three", x.holds(0, 0, 9, 9, -1, 0), -1);
        due("c 1 of three", x.holds(0, 0, 0, 0, 1, 0), 5);
        due("a, c of three", x.holds(0, 0, 1, 0, 1, 0), 0);
        due("b of three", x.holds(0, 0, 0, 2, 0, 0), 5);
    }
}
