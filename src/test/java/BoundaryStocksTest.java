import java.util.Arrays;

/** Boundary cases of LEAST COIN and of POOLS: promises 25 to 30, and term IV. */
public final class BoundaryStocksTest {
    private static final Check CHECK = new Check();
    private static final int[] FAR = {-1, -2, -1000000, Integer.MIN_VALUE, Integer.MAX_VALUE, 99};
    private static final int MOST = Integer.MAX_VALUE;

    public static void main(String[] args) {
        Sentences s = new Sentences(CHECK);
        sentences(s);
        s.run();
    }

    static void sentences(Sentences s) {
        s.hold("Term IV", "LEAST COIN for an ISLAND and a KIND over k MONTHS (1 .. 12) from a month on,", BoundaryStocksTest::monthsOn);
        s.hold("Term IV", "with a stock q (0 .. 60) to begin with:", BoundaryStocksTest::stocks);
        s.hold("Term IV", "in each MONTH its BOAT (if there is one) may bring pieces,", BoundaryStocksTest::boatsThereAre);
        s.hold("Term IV", "as many as ROOM lets", BoundaryStocksTest::room);
        s.hold("Term IV", "and SAFE holds with what is there", BoundaryStocksTest::safe);
        s.hold("Term IV", "(COST if it brings any, NEW each);", BoundaryStocksTest::costs);
        s.hold("Term IV", "then what is WANTED is taken from the stock as far as it goes, HARM for each that is lacked.",
            BoundaryStocksTest::taken);
        s.hold("Term IV", "With d (0 .. 3): what is wanted is 0, 1, .. d more, each by one of d + 1 ways, known behind the boat alone:",
            BoundaryStocksTest::ways);
        s.hold("Term IV", "the sum over all ways of all k MONTHS (d + 1 to the k).", BoundaryStocksTest::mostWays);
        s.hold("Term IV", "ORDER: how many the BOAT of the first MONTH brings; of alike ones the fewest.", BoundaryStocksTest::orders);
        s.hold("Term IV", "PRICE: how much less LEAST COIN is with one piece more to begin with.", BoundaryStocksTest::prices);
        pools(s);
        s.hold("Promise 25", "LEAST COIN; -1: no such ones.", () -> noSuchPlan(0));
        s.hold("Promise 26", "ORDER; NONE: no such ones.", () -> noSuchPlan(1));
        s.hold("Promise 27", "PRICE; -1: no such ones, q 60.", BoundaryStocksTest::noSuchPrice);
        s.hold("Promise 28", "POOL: the least HARM of a set of ISLANDS (bit 0 is ISLAND 1 of PLACES), now, in a month;",
            BoundaryStocksTest::poolsOfSets);
        s.hold("Promise 28", "NONE: no such ones.", () -> noSuchSet(false));
        s.hold("Promise 29", "SAVED; NONE: no such ones.", () -> noSuchSet(true));
        s.hold("Promise 30", "PARTS (four numbers, 0 at least;", BoundaryStocksTest::partsAtLeast);
        s.hold("Promise 30", "those of ISLANDS that there are not don't matter):", BoundaryStocksTest::partsOfNone);
        s.hold("Promise 30", "0 if they HOLD, else the set;", BoundaryStocksTest::eachSet);
        s.hold("Promise 30", "NONE: no such ones.", BoundaryStocksTest::noSuchParts);
    }

    private static void pools(Sentences s) {
        s.hold("Term IV", "POOL of a month and a KIND, of a set of ISLANDS (bits): with what each has and WANTS now,",
            BoundaryStocksTest::poolsNow);
        s.hold("Term IV", "all that they have together is shared as is best: the least HARM (those with the greatest HARM first).",
            BoundaryStocksTest::poolsShared);
        s.hold("Term IV", "SAVED: the sum of HARM each bears alone, less that.", BoundaryStocksTest::saves);
        s.hold("Term IV", "PARTS (a row of numbers, one an ISLAND) HOLD if no set of ISLANDS SAVES more than its PARTS' sum,",
            BoundaryStocksTest::setsThatSaveMore);
        s.hold("Term IV", "and all together SAVE as much:", BoundaryStocksTest::allTogether);
        s.hold("Term IV", "else the set (the least) that SAVES more, or (all sets alike served) 16.", BoundaryStocksTest::leastSet);
    }

    private static void due(String call, long got, long want) {
        CHECK.due(call, got, want);
    }

    /** LEAST COIN and ORDER of ISLAND 1 and KIND 0. */
    private static void plan(CoinBoats x, int month, int k, int q, int d, long least, int order) {
        String plan = "(1, 0, " + month + ", " + k + ", " + q + ", " + d + ")";
        due("least" + plan, x.least(1, 0, month, k, q, d), least);
        due("order" + plan, x.order(1, 0, month, k, q, d), order);
    }

    private static void monthsOn() {
        CoinBoats x = Check.told("kind k 1 1 1;island i 60 1;want i k=100+month*month;");
        for (int month = 0; month < 12; month++) {
            int sum = 0;
            for (int k = 1; k <= 12; k++) {
                int then = (month + k - 1) % 12;
                sum += 100 + then * then;
                due("from month " + month + ", " + k, x.least(1, 0, month, k, 0, 0), sum);
            }
        }
        due("k 0", x.least(1, 0, 0, 0, 0, 0), -1);
        due("k 13", x.least(1, 0, 0, 13, 0, 0), -1);
        due("month 12", x.least(1, 0, 12, 1, 0, 0), -1);
        // The TIME that it is does not matter.
        x.months(1, 5);
        due("from month 0, 1", x.least(1, 0, 0, 1, 0, 0), 100);
        // A BOAT of month 0, from month 11 on.
        x = Check.told("kind k 1 1 1;island i 60 9;want i k=[month==0]*5;boat i 0 99 0;");
        plan(x, 11, 2, 0, 0, 5, 0);
        plan(x, 0, 12, 0, 0, 5, 5);
        plan(x, 1, 12, 0, 0, 5, 0);
        plan(x, 1, 11, 0, 0, 0, 0);
    }

    private static void stocks() {
        CoinBoats x = Check.told("kind k 1 1 1;island i 60 1;want i k=60;island j 60 1;want j k=61;");
        for (int q = 0; q <= 60; q++) {
            due("60 WANTED, q " + q, x.least(1, 0, 0, 1, q, 0), 60 - q);
            due("61 WANTED, q " + q, x.least(2, 0, 0, 1, q, 0), 61 - q);
        }
        due("q 61", x.least(1, 0, 0, 1, 61, 0), -1);
        due("q -1", x.least(1, 0, 0, 1, -1, 0), -1);
        // Not what is there now.
        x.lay(1, 0, 0, 50);
        due("q 0", x.least(1, 0, 0, 1, 0, 0), 60);
    }

    private static void boatsThereAre() {
        CoinBoats x = Check.told("kind k 1 1 1;kind l 1 1 1;island i 60 9;island j 60 9;want i k=5;want i l=5;want j k=5;"
            + "boat i 1 99 2;boat i 2 99 2 fails 10;boat j 0 99 2;");
        plan(x, 0, 1, 0, 0, 45, 0);
        plan(x, 1, 1, 0, 0, 7, 5);
        // FAILS do not matter.
        plan(x, 2, 1, 0, 0, 7, 5);
        plan(x, 1, 2, 0, 0, 12, 10);
        plan(x, 0, 3, 0, 0, 57, 0);
        due("ISLAND 2, month 0", x.order(2, 0, 0, 1, 0, 0), 5);
        due("ISLAND 2, month 1", x.order(2, 0, 1, 1, 0, 0), 0);
        due("KIND 1, month 1", x.order(1, 1, 1, 1, 0, 0), 5);
        // It may bring none.
        plan(x, 1, 1, 5, 0, 0, 0);
    }

    private static void room() {
        CoinBoats x = Check.told("kind k 1 20 0;kind l 1 1 0;island i 60 9;want i k=9999;want i l=9999;boat i 0 19 0;boat i 1 20 0;"
            + "boat i 2 39 0;boat i 3 40 0;boat i 4 999 0;boat i 5 1 0;boat i 6 2 0;boat i 7 59 0;boat i 8 60 0;");
        int[] of20 = {0, 1, 1, 2, 49, 0, 0, 2, 3};
        int[] of1 = {19, 20, 39, 40, 60, 1, 2, 59, 60};
        for (int month = 0; month < 9; month++) {
            plan(x, month, 1, 0, 0, 9 * (9999 - of20[month]), of20[month]);
            due("WEIGHT 1, month " + month, x.order(1, 1, month, 1, 0, 0), of1[month]);
        }
    }

    private static void safe() {
        int[] safes = {0, 1, 10, 59, 60};
        for (int safe : safes) {
            CoinBoats x = Check.told("kind k 1 1 0;island i " + safe + " 9;want i k=9999;boat i 0 999 0;");
            for (int q : new int[] {0, 1, 9, 10, 11, 58, 59, 60}) {
                int order = Math.max(0, safe - q);
                plan(x, 0, 1, q, 0, 9 * (9999 - q - order), order);
            }
        }
        // A stock above SAFE stays; what was taken makes room for the next BOAT.
        CoinBoats x = Check.told("kind k 1 1 0;island i 10 9;want i k=20;boat i 0 999 0;boat i 1 999 0;");
        plan(x, 0, 2, 40, 0, 0, 0);
        plan(x, 0, 2, 30, 0, 9 * 10, 0);
        plan(x, 0, 2, 25, 0, 9 * 10, 0);
        plan(x, 0, 2, 0, 0, 9 * 20, 10);
        plan(x, 0, 2, 9, 0, 9 * 20, 1);
    }

    private static void costs() {
        CoinBoats x = Check.told("kind k 1 1 7;island i 60 99;want i k=1;boat i 0 99 30;boat i 1 99 0;boat i 2 99 999;");
        plan(x, 0, 1, 0, 0, 37, 1);
        plan(x, 1, 1, 0, 0, 7, 1);
        plan(x, 0, 1, 1, 0, 0, 0);
        plan(x, 2, 1, 0, 0, 99, 0);
        // Once for all it brings; each MONTH anew.
        plan(x, 0, 2, 0, 0, 30 + 7 + 7, 1);
        plan(x, 0, 3, 0, 0, 30 + 7 + 14, 1);
        x = Check.told("kind k 1 1 7;island i 60 99;want i k=3;boat i 0 99 30;boat i 1 99 29;");
        plan(x, 0, 1, 0, 0, 30 + 21, 3);
        plan(x, 0, 1, 1, 0, 30 + 14, 2);
        plan(x, 0, 2, 0, 0, 30 + 42, 6);
        plan(x, 0, 2, 3, 0, 29 + 21, 0);
        x = Check.told("kind k 1 1 0;island i 60 99;want i k=2;boat i 0 99 0;");
        plan(x, 0, 1, 0, 0, 0, 2);
        plan(x, 0, 12, 0, 0, 0, 24);
    }

    private static void taken() {
        CoinBoats x = Check.told("kind k 1 1 1;island i 60 5;want i k=7;");
        plan(x, 0, 1, 6, 0, 5, 0);
        plan(x, 0, 1, 7, 0, 0, 0);
        plan(x, 0, 1, 8, 0, 0, 0);
        plan(x, 0, 2, 8, 0, 30, 0);
        plan(x, 0, 2, 13, 0, 5, 0);
        plan(x, 0, 2, 14, 0, 0, 0);
        plan(x, 0, 8, 60, 0, 0, 0);
        plan(x, 0, 9, 60, 0, 15, 0);
        // HARM 0: nothing is worth a piece.
        x = Check.told("kind k 1 1 1;island i 60 0;want i k=9999;boat i 0 99 0;");
        plan(x, 0, 12, 0, 3, 0, 0);
        // No WANT.
        x = Check.told("kind k 1 1 1;island i 60 9;boat i 0 99 0;");
        plan(x, 0, 12, 0, 0, 0, 0);
        plan(x, 0, 1, 0, 1, 2, 1);
        plan(x, 1, 1, 0, 1, 9, 0);
    }

    private static void ways() {
        CoinBoats x = Check.told("kind k 1 1 2;island i 60 6;want i k=2;boat i 5 99 3;");
        // No BOAT: 2, 3, 4, 5 lacked.
        plan(x, 4, 1, 0, 0, 12, 0);
        plan(x, 4, 1, 0, 1, 30, 0);
        plan(x, 4, 1, 0, 2, 54, 0);
        plan(x, 4, 1, 0, 3, 84, 0);
        // Of 2 or 3: two months of 2 ways each.
        plan(x, 3, 2, 0, 1, 2 * 30 + 2 * 30, 0);
        // With 5: 0 is left of 5, 1 or more of less.
        plan(x, 4, 1, 5, 3, 0, 0);
        plan(x, 4, 1, 4, 3, 6, 0);
        // The BOAT brings the same for all ways: 3 + 2 n each, and HARM 6 for what is lacked.
        plan(x, 5, 1, 0, 0, 7, 2);
        plan(x, 5, 1, 0, 1, 18, 3);
        plan(x, 5, 1, 0, 2, 3 * 9 + 6, 3);
        plan(x, 5, 1, 0, 3, 4 * 11 + 6, 4);
        due("d -1", x.least(1, 0, 5, 1, 0, -1), -1);
        due("d 4", x.least(1, 0, 5, 1, 0, 4), -1);
        // The second BOAT knows what the first month took: 1 or none is left of 1.
        x = Check.told("kind k 1 1 1;island i 60 9;boat i 0 99 0;boat i 1 99 0;");
        plan(x, 0, 2, 0, 1, 4 + 2, 1);
        plan(x, 0, 1, 0, 3, 4 * 3, 3);
    }

    private static void mostWays() {
        CoinBoats x = Check.told("kind k 1 20 99;island i 60 99;want i k=9999;");
        // 4 to the 12 ways, of each month a fourth with 0, 1, 2, 3 more.
        long ways = 16777216L;
        due("4 to the 12", x.least(1, 0, 0, 12, 0, 3), ways * 12 * 99 * 9999 + ways / 4 * 12 * 99 * 6);
        due("3 to the 12", x.least(1, 0, 0, 12, 0, 2), 531441L * 12 * 99 * 10000);
        due("2 to the 12", x.least(1, 0, 0, 12, 0, 1), 4096L * 12 * 99 * 9999 + 2048L * 12 * 99);
        due("1 to the 12", x.least(1, 0, 0, 12, 0, 0), 12L * 99 * 9999);
        due("a piece of the first month", x.price(1, 0, 0, 12, 59, 3), ways * 99);
        // A BOAT costs in all ways.
        x = Check.told("kind k 1 1 99;island i 1 99;want i k=1;boat i 0 999 0;boat i 11 999 999;");
        due("alike: it does not come", x.order(1, 0, 0, 1, 0, 0), 0);
        x = Check.told("kind k 1 1 98;island i 60 99;want i k=60;boat i 0 999 59;");
        due("saves 60, COST 59, in all ways", x.least(1, 0, 0, 12, 0, 3),
            ways * (60 * 98 + 59) + ways / 4 * 99 * 6 + ways * 99 * 60 * 11 + ways / 4 * 99 * 6 * 11);
        due("order", x.order(1, 0, 0, 12, 0, 3), 60);
    }

    private static void orders() {
        // NEW is HARM, COST 0: alike; NEW one less: all of them.
        CoinBoats x = Check.told("kind k 1 1 6;kind l 1 1 5;island i 60 6;want i k=5;want i l=5;boat i 0 999 0;boat i 1 999 5;"
            + "boat i 2 999 4;boat i 3 3 0;");
        plan(x, 0, 1, 0, 0, 30, 0);
        due("each saves 1", x.order(1, 1, 0, 1, 0, 0), 5);
        due("five save 5, COST 5: alike", x.order(1, 1, 1, 1, 0, 0), 0);
        due("five save 5, COST 4", x.order(1, 1, 2, 1, 0, 0), 5);
        due("four save 4, COST 4: alike", x.order(1, 1, 2, 1, 1, 0), 0);
        due("three by ROOM", x.order(1, 1, 3, 1, 0, 0), 3);
        due("no BOAT", x.order(1, 1, 4, 1, 0, 0), 0);
        // Now or by the next BOAT, alike: the fewest now.
        x = Check.told("kind k 1 1 1;island i 60 9;want i k=3;boat i 0 999 0;boat i 1 999 0;");
        plan(x, 0, 2, 0, 0, 6, 3);
        plan(x, 0, 2, 5, 0, 1, 0);
        x = Check.told("kind k 1 1 1;island i 60 9;want i k=3;boat i 0 999 0;boat i 1 999 1;");
        plan(x, 0, 2, 0, 0, 6, 6);
        // Of the first MONTH alone.
        x = Check.told("kind k 1 1 1;island i 60 9;want i k=3;boat i 1 999 0;");
        plan(x, 0, 2, 0, 0, 30, 0);
    }

    private static void prices() {
        CoinBoats x = Check.told("kind k 1 1 2;island i 60 6;want i k=4;boat i 0 999 3;");
        long[] least = new long[61];
        for (int month = 0; month < 2; month++) {
            for (int q = 0; q <= 60; q++) {
                least[q] = month == 1 ? 6 * Math.max(0, 4 - q) : q >= 4 ? 0 : 3 + 2 * (4 - q);
            }
            for (int q = 0; q < 60; q++) {
                due("price at " + q, x.price(1, 0, month, 1, q, 0), least[q] - least[q + 1]);
            }
        }
        due("NEW", x.price(1, 0, 0, 1, 0, 0), 2);
        due("NEW and COST", x.price(1, 0, 0, 1, 3, 0), 5);
        due("HARM", x.price(1, 0, 1, 1, 3, 0), 6);
        due("nothing", x.price(1, 0, 1, 1, 4, 0), 0);
        x = Check.told("kind k 1 1 2;island i 60 6;want i k=60;");
        due("q 59", x.price(1, 0, 0, 1, 59, 0), 6);
        due("q 60", x.price(1, 0, 0, 1, 60, 0), -1);
        due("in each of 4 ways", x.price(1, 0, 0, 1, 59, 3), 24);
    }

    /** LEAST COIN (0), ORDER (1), PRICE (2). */
    private static long asked(CoinBoats x, int call, int[] a) {
        switch (call) {
            case 0:
                return x.least(a[0], a[1], a[2], a[3], a[4], a[5]);
            case 1:
                return x.order(a[0], a[1], a[2], a[3], a[4], a[5]);
            default:
                return x.price(a[0], a[1], a[2], a[3], a[4], a[5]);
        }
    }

    private static void noSuchPlan(int call) {
        CoinBoats x = Check.told("kind k 1 1 2;island i 9 6;want i k=2;boat i 0 9 3;");
        int[] right = {1, 0, 0, 1, 0, 0};
        int[][] wrong = {{0, 2}, {-1, 1}, {-1, 12}, {0, 13}, {-1, 61}, {-1, 4}};
        due("of what there is", asked(x, call, right), new int[] {7, 2, 2}[call]);
        // 60 are WANTED in just one way of all.
        due("the most of all", asked(x, call, new int[] {1, 0, 11, 12, call == 2 ? 59 : 60, 3}), new int[] {0, 0, 6}[call]);
        for (int i = 0; i < 6; i++) {
            int[] values = {wrong[i][0], wrong[i][1], FAR[0], FAR[1], FAR[2], FAR[3], FAR[4], FAR[5]};
            for (int value : values) {
                int[] a = right.clone();
                a[i] = value;
                due("of " + Arrays.toString(a), asked(x, call, a), -1);
            }
        }
    }

    private static void noSuchPrice() {
        noSuchPlan(2);
        CoinBoats x = Check.told("kind k 1 1 2;island i 9 6;want i k=60;");
        due("q 60", x.price(1, 0, 0, 1, 60, 0), -1);
        due("q 60, d 3", x.price(1, 0, 11, 12, 60, 3), -1);
        due("q 59", x.price(1, 0, 0, 1, 59, 0), 6);
        due("least of q 60", x.least(1, 0, 0, 1, 60, 0), 0);
        due("order of q 60", x.order(1, 0, 0, 1, 60, 0), 0);
    }

    private static void poolsNow() {
        CoinBoats x = Check.told("kind k 1 1 1;kind l 1 1 1;island i 9 4;island j 9 7;want i k=month;want j k=5;want j l=2;");
        due("nothing is there, month 0", x.pool(0, 0, 3), 35);
        due("month 11", x.pool(0, 11, 3), 35 + 44);
        for (int worn = 0; worn < 4; worn++) {
            x.lay(1, 0, worn, 1);
        }
        x.lay(0, 0, 0, 99);
        due("four are there", x.pool(0, 0, 3), 7);
        due("not those of the house", x.pool(0, 11, 3), 7 + 44);
        due("another KIND", x.pool(1, 0, 3), 14);
        x.lay(2, 1, 0, 2);
        due("just enough", x.pool(1, 0, 3), 0);
        due("nothing is taken", x.has(2, 1, 0), 2);
        x.months(1, 1);
        due("the month that is asked, not the one that it is", x.pool(0, 0, 3), 7);
    }

    private static void poolsShared() {
        // HARM 4, 9, 2, 9; 3 WANTED each.
        CoinBoats x = Check.told("kind k 1 1 1;island a 9 4;island b 9 9;island c 9 2;island d 9 9;want a k=3;want b k=3;want c k=3;want d k=3;");
        int[] want = new int[14];
        int[] harms = {9, 9, 9, 9, 9, 9, 4, 4, 4, 2, 2, 2};
        for (int n = 12; n >= 0; n--) {
            want[n] = n == 12 ? 0 : want[n + 1] + harms[n];
        }
        for (int n = 0; n <= 13; n++) {
            due("n " + n + " are there", x.pool(0, 0, 15), want[Math.min(n, 12)]);
            x.lay(3, 0, n % 4, 1);
        }
        due("more than enough is no less than 0", x.pool(0, 0, 15), 0);
        // The most there can be.
        x = Check.told("kind k 1 1 1;island a 9 99;island b 9 99;island c 9 99;island d 9 99;want a k=9999;want b k=9999;want c k=9999;want d k=9999;");
        due("all lack all", x.pool(0, 0, 15), 4 * 99 * 9999);
        x.lay(1, 0, 0, 9999);
        x.lay(2, 0, 0, 9999);
        due("two of four", x.pool(0, 0, 15), 2 * 99 * 9999);
    }

    private static CoinBoats four() {
        // HARM 4, 9, 2, 9; i has 3 too many, j lacks 4, k has 2 too many, l lacks 1.
        CoinBoats x = Check.told("kind k 1 1 1;island i 9 4;island j 9 9;island m 9 2;island l 9 9;want i k=10;want j k=5;want m k=3;want l k=1;");
        x.lay(1, 0, 1, 13);
        x.lay(2, 0, 0, 1);
        x.lay(3, 0, 2, 5);
        return x;
    }

    private static void poolsOfSets() {
        CoinBoats x = four();
        // Of i; j: 4 at 9; i, j: 14 for 5 and 10: 1 at 4; m; i, m; j, m: 6 for 5 and 3; i, j, m: 19 for 18; l: 1 at 9; i, l; j, l;
        // i, j, l: 14 for 5, 1, 10: 2 at 4; m, l; i, m, l; j, m, l: 6 for 5, 1, 3; all: 19 for 19.
        int[] want = {0, 0, 36, 4, 0, 0, 4, 0, 9, 0, 45, 8, 0, 0, 6, 0};
        for (int set = 0; set < 16; set++) {
            due("pool of set " + set, x.pool(0, 0, set), want[set]);
        }
        for (int place = 1; place <= 4; place++) {
            CoinBoats one = Check.told("kind k 1 1 1;island a 9 1;island b 9 1;island c 9 1;island d 9 1;"
                + "want " + "abcd".charAt(place - 1) + " k=5;");
            for (int set = 0; set < 16; set++) {
                due("ISLAND " + place + " is bit " + (place - 1), one.pool(0, 0, set), (set >> place - 1 & 1) * 5);
            }
        }
    }

    private static void saves() {
        CoinBoats x = four();
        int[] alone = {0, 36, 0, 9};
        for (int set = 0; set < 16; set++) {
            int sum = 0;
            for (int i = 0; i < 4; i++) {
                sum += (set >> i & 1) * alone[i];
            }
            due("saved by set " + set, x.saved(0, 0, set), sum - x.pool(0, 0, set));
        }
        due("saved by i, j", x.saved(0, 0, 3), 32);
        due("one alone saves nothing", x.saved(0, 0, 2), 0);
        due("two that lack save nothing", x.saved(0, 0, 10), 0);
        due("all together", x.saved(0, 0, 15), 45);
        // A piece goes from where it saves 4 to where it saves 9.
        x = Check.told("kind k 1 1 1;island i 9 4;island j 9 9;want i k=1;want j k=1;");
        x.lay(1, 0, 0, 1);
        due("saved by both", x.saved(0, 0, 3), 5);
        x.lay(2, 0, 0, 1);
        due("saved by both, each has one", x.saved(0, 0, 3), 0);
    }

    private static int asked(CoinBoats x, boolean saved, int kind, int month, int set) {
        return saved ? x.saved(kind, month, set) : x.pool(kind, month, set);
    }

    private static void noSuchSet(boolean saved) {
        CoinBoats x = four();
        for (int far : FAR) {
            due("KIND " + far, asked(x, saved, far, 0, 1), -1);
            due("month " + far, asked(x, saved, 0, far, 1), -1);
            due("set " + far, asked(x, saved, 0, 0, far), -1);
        }
        due("KIND 1", asked(x, saved, 1, 0, 1), -1);
        due("month 12", asked(x, saved, 0, 12, 1), -1);
        due("month 11", asked(x, saved, 0, 11, 1), 0);
        due("set 16", asked(x, saved, 0, 0, 16), -1);
        due("set 15", asked(x, saved, 0, 0, 15), saved ? 45 : 0);
        for (int islands = 1; islands <= 4; islands++) {
            CoinBoats some = Check.told("kind k 1 1 1;" + "island a 1 1;island b 1 1;island c 1 1;island d 1 1;".substring(0, 13 * islands));
            due("all ISLANDS", asked(some, saved, 0, 0, (1 << islands) - 1), 0);
            due("an ISLAND too many", asked(some, saved, 0, 0, 1 << islands), -1);
            due("an ISLAND too many, and one", asked(some, saved, 0, 0, (1 << islands) + 1), -1);
        }
    }

    private static void setsThatSaveMore() {
        CoinBoats x = four();
        // Month 0 saves: i, j 32; i, l 9; j, m 32; m, l 9; i, j, m 36; i, j, l 37; j, m, l 39; i, m, l 9; all 45.
        due("32 for j is 4 too few", x.holds(0, 0, 0, 32, 0, 13), 7);
        due("36 for j, 9 for l", x.holds(0, 0, 0, 36, 0, 9), 0);
        due("35 for j, 9 for l, 1 for i", x.holds(0, 0, 1, 35, 0, 9), 0);
        due("34 for j, 9 for l, 1 for i", x.holds(0, 0, 1, 34, 0, 10), 7);
        due("j, m save as much as they have", x.holds(0, 0, 4, 32, 0, 9), 0);
        due("j, m save one more", x.holds(0, 0, 5, 31, 0, 9), 6);
        x = Check.told("kind k 1 1 1;island i 9 4;");
        due("one alone saves 0", x.holds(0, 0, 0, 0, 0, 0), 0);
        due("no ISLAND", Check.told("kind k 1 1 1;").holds(0, 0, 0, 0, 0, 0), 0);
    }

    /** Each set of two and more ISLANDS in turn is the one that SAVES more; none of one. */
    private static void eachSet() {
        String islands = "kind k 1 1 1;island a 9 1;island b 9 1;island c 9 1;island d 9 1;";
        for (int first = 0; first < 4; first++) {
            for (int second = 0; second < 4; second++) {
                if (first != second) {
                    CoinBoats x = Check.told(islands + "want " + "abcd".charAt(first) + " k=1;");
                    x.lay(second + 1, 0, 0, 1);
                    int[] parts = new int[4];
                    due("1 is saved by both", x.holds(0, 0, 0, 0, 0, 0), 1 << first | 1 << second);
                    parts[first] = 1;
                    due("all for the one that lacks", x.holds(0, 0, parts[0], parts[1], parts[2], parts[3]), 0);
                    parts[first] = 0;
                    parts[second] = 1;
                    due("all for the one that has", x.holds(0, 0, parts[0], parts[1], parts[2], parts[3]), 0);
                    parts[first] = 1;
                    due("1 for both", x.holds(0, 0, parts[0], parts[1], parts[2], parts[3]), 16);
                }
            }
        }
        CoinBoats x = Check.told(islands + "want a k=3;");
        x.lay(2, 0, 0, 1);
        x.lay(3, 0, 0, 1);
        x.lay(4, 0, 0, 1);
        due("3 for d: a, b", x.holds(0, 0, 0, 0, 0, 3), 3);
        due("1 for a, 1 for d: a, b, c", x.holds(0, 0, 1, 0, 0, 1), 7);
        due("1 for a, 1 for c: a, b, d", x.holds(0, 0, 1, 0, 1, 0), 11);
        due("1 for a, 1 for b: a, c, d", x.holds(0, 0, 1, 1, 0, 0), 13);
        due("2 for a: all", x.holds(0, 0, 2, 0, 0, 0), 15);
        due("3 for a", x.holds(0, 0, 3, 0, 0, 0), 0);
    }

    private static void allTogether() {
        CoinBoats x = four();
        due("45 in all", x.holds(0, 0, 0, 36, 0, 9), 0);
        due("46 in all", x.holds(0, 0, 0, 36, 0, 10), 16);
        due("46 in all", x.holds(0, 0, 1, 36, 0, 9), 16);
        due("far more, beyond 32 bits", x.holds(0, 0, MOST, MOST, MOST, MOST), 16);
        due("beyond 32 bits, two of them", x.holds(0, 0, MOST, MOST, 0, 47), 16);
        due("44 in all: all save more", x.holds(0, 0, 0, 36, 0, 8), 9);
        // Nothing is saved: all 0 hold, 1 is too much.
        x = Check.told("kind k 1 1 1;island i 9 4;island j 9 4;");
        due("nothing is saved", x.holds(0, 0, 0, 0, 0, 0), 0);
        due("nothing is saved", x.holds(0, 0, 0, 1, 0, 0), 16);
        // All together save more than their PARTS, no smaller set does.
        x = Check.told("kind k 1 1 1;island i 9 1;island j 9 1;island m 9 1;want m k=2;");
        x.lay(1, 0, 0, 1);
        x.lay(2, 0, 0, 1);
        due("2 saved by all three", x.holds(0, 0, 0, 0, 2, 0), 0);
        due("1 saved by i, m and by j, m", x.holds(0, 0, 0, 0, 1, 0), 7);
        due("one each", x.holds(0, 0, 1, 0, 1, 0), 0);
    }

    private static void leastSet() {
        CoinBoats x = four();
        due("nothing for any: the least is i, j", x.holds(0, 0, 0, 0, 0, 0), 3);
        due("i, j have 32: j, m", x.holds(0, 0, 32, 0, 0, 0), 6);
        due("j has 32: i, j, m", x.holds(0, 0, 0, 32, 0, 0), 7);
        due("j has 36: i, l", x.holds(0, 0, 0, 36, 0, 0), 9);
        due("i has 9 too: m, l", x.holds(0, 0, 9, 36, 0, 0), 12);
        due("all sets are served, 50 of 45", x.holds(0, 0, 9, 32, 9, 0), 16);
        due("all sets are served, 63 of 45", x.holds(0, 0, 9, 36, 9, 9), 16);
        // More than all save, and yet one set is not served: that set.
        due("99 for m, none for the others", x.holds(0, 0, 0, 0, 99, 0), 3);
    }

    private static void partsAtLeast() {
        CoinBoats x = four();
        due("0 each", x.holds(0, 0, 0, 0, 0, 0), 3);
        for (int least : new int[] {-1, -9, Integer.MIN_VALUE}) {
            due("a " + least, x.holds(0, 0, least, 99, 99, 99), -1);
            due("b " + least, x.holds(0, 0, 99, least, 99, 99), -1);
            due("c " + least, x.holds(0, 0, 99, 99, least, 99), -1);
            due("d " + least, x.holds(0, 0, 99, 99, 99, least), -1);
        }
        due("0 for a", x.holds(0, 0, 0, 99, 99, 99), 16);
        due("0 for b", x.holds(0, 0, 99, 0, 99, 99), 16);
        due("0 for c", x.holds(0, 0, 99, 99, 0, 99), 16);
        due("0 for d", x.holds(0, 0, 99, 99, 99, 0), 16);
        due("0 for d", x.holds(0, 0, 0, 36, 8, 0), 9);
        String[] texts = {"island i 1 1;", "island j 1 1;", "island l 1 1;", "island m 1 1;"};
        String text = "kind k 1 1 1;";
        for (int islands = 1; islands <= 4; islands++) {
            text += texts[islands - 1];
            x = Check.told(text);
            due("0 each of " + islands, x.holds(0, 0, 0, 0, 0, 0), 0);
            due("a -1 of " + islands, x.holds(0, 0, -1, 9, 9, 9), -1);
            due("b -1 of " + islands, islands < 2 ? -1 : x.holds(0, 0, 9, -1, 9, 9), -1);
            due("c -1 of " + islands, islands < 3 ? -1 : x.holds(0, 0, 9, 9, -1, 9), -1);
            due("d -1 of " + islands, islands < 4 ? -1 : x.holds(0, 0, 9, 9, 9, -1), -1);
        }
    }

    private static void partsOfNone() {
        String text = "kind k 1 1 1;island i 9 4;want i k=1;";
        CoinBoats x = Check.told(text);
        due("one ISLAND", x.holds(0, 0, 0, 7, 7, 7), 0);
        due("one ISLAND", x.holds(0, 0, 0, MOST, MOST, MOST), 0);
        due("one ISLAND", x.holds(0, 0, 1, 0, 0, 0), 16);
        due("one ISLAND", x.holds(0, 0, 0, -1, -1, -1), 0);
        x = Check.told(text + "island j 9 9;want j k=1;");
        x.lay(1, 0, 0, 1);
        due("two ISLANDS", x.holds(0, 0, 5, 0, 77, 88), 0);
        due("two ISLANDS", x.holds(0, 0, 0, 4, 77, 88), 3);
        due("two ISLANDS", x.holds(0, 0, 0, 6, 0, 0), 16);
        due("two ISLANDS", x.holds(0, 0, 2, 3, -1, -1), 0);
        x = Check.told(text + "island j 9 9;island m 9 1;want j k=1;");
        x.lay(3, 0, 0, 1);
        due("three ISLANDS", x.holds(0, 0, 0, 5, 4, 99), 0);
        due("three ISLANDS", x.holds(0, 0, 0, 5, 3, 99), 5);
        due("three ISLANDS", x.holds(0, 0, 0, 5, 4, -1), 0);
        due("no ISLANDS", Check.told("kind k 1 1 1;").holds(0, 0, 9, 9, 9, 9), 0);
    }

    private static void noSuchParts() {
        CoinBoats x = four();
        for (int far : FAR) {
            due("holds(" + far + ", 0, ..)", x.holds(far, 0, 0, 36, 0, 9), -1);
            due("holds(0, " + far + ", ..)", x.holds(0, far, 0, 36, 0, 9), -1);
        }
        due("KIND 1", x.holds(1, 0, 0, 36, 0, 9), -1);
        due("month 12", x.holds(0, 12, 0, 36, 0, 9), -1);
        due("no KIND", Check.told("island i 1 1;").holds(0, 0, 0, 0, 0, 0), -1);
        due("month 11", x.holds(0, 11, 0, 36, 0, 9), 0);
    }
}
