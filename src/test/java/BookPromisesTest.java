/** Promises 31 to 46: BOOKS, what trickles back, burning and sorting, SLOTS, counts. */
public final class BookPromisesTest {
    private static final Check CHECK = new Check();
    private static final String TWO = "kind a 1 1 1;kind b 5 1 1;island i 1 1;island j 1 1;island k 1 1;";

    public static void main(String[] args) {
        rows();
        voids();
        sixty();
        balance();
        richest();
        jars();
        jarsEnds();
        jarsAlike();
        ends();
        whose();
        whoseLarge();
        whoseOfAll();
        trickle();
        trickled();
        burnAt();
        sort();
        slots();
        heldApart();
        count();
        CHECK.finish();
    }

    private static void due(String call, long got, long want) {
        CHECK.due(call, got, want);
    }

    private static void rows() {
        CHECK.promise("Promise 31");
        CoinBoats x = Check.told(TWO);
        due("book(1, 0, 0, true)", x.book(1, 0, 0, true), 0);
        due("book(3, 1, 9999, false)", x.book(3, 1, 9999, false), 1);
        due("book(0, 0, 1, true)", x.book(0, 0, 1, true), -1);
        due("book(4, 0, 1, true)", x.book(4, 0, 1, true), -1);
        due("book(-1, 0, 1, true)", x.book(-1, 0, 1, true), -1);
        due("book(1, 2, 1, true)", x.book(1, 2, 1, true), -1);
        due("book(1, -1, 1, true)", x.book(1, -1, 1, true), -1);
        due("book(1, 0, -1, true)", x.book(1, 0, -1, true), -1);
        due("book(1, 0, 10000, false)", x.book(1, 0, 10000, false), -1);
        CHECK.promise("Promise 32");
        due("looked(1, 60, 60)", x.looked(1, 60, 60), 2);
        due("looked(2, 0, 0)", x.looked(2, 0, 0), 3);
        due("looked(1, 61, 1)", x.looked(1, 61, 1), -1);
        due("looked(1, -1, -1)", x.looked(1, -1, -1), -1);
        due("looked(1, 5, 6)", x.looked(1, 5, 6), -1);
        due("looked(1, 5, -1)", x.looked(1, 5, -1), -1);
        due("looked(0, 5, 1)", x.looked(0, 5, 1), -1);
        due("looked(4, 5, 1)", x.looked(4, 5, 1), -1);
        CHECK.promise("Promise 33");
        due("annul(4)", x.annul(4), -1);
        due("annul(-1)", x.annul(-1), -1);
        due("annul(3)", x.annul(3), 4);
        due("annul(4), a VOID", x.annul(4), -1);
        due("annul(3) once more", x.annul(3), 5);
        due("annul(0)", x.annul(0), 6);
        due("count(6)", x.count(6), 7);
    }

    private static void voids() {
        CoinBoats x = Check.told(TWO);
        x.book(1, 0, 10, true);
        x.book(1, 0, 5, true);
        x.annul(0);
        x.looked(1, 6, 2);
        x.looked(2, 3, 1);
        x.annul(3);
        due("KNOWN by 1", x.balance(1, 0, 1), 10);
        due("KNOWN by 2", x.balance(1, 0, 2), 15);
        due("the VOID is KNOWN", x.balance(1, 0, 3), 5);
        due("KNOWN by 6", x.balance(1, 0, 6), 5);
        due("all looked at", x.whoseWays(2, 5, false), 84);
        due("of the others", x.whoseWays(2, 6, false), 1);
        due("none of the one that is void", x.whoseWays(1, 6, false), -2);
    }

    private static void sixty() {
        CoinBoats x = Check.told(TWO);
        for (int i = 0; i < 59; i++) {
            due("book(1, 0, 1, true)", x.book(1, 0, 1, true), i);
        }
        due("annul(0)", x.annul(0), 59);
        due("a 61st row", x.book(1, 0, 1, true), -1);
        due("a 61st row", x.looked(1, 2, 1), -1);
        due("a 61st row", x.annul(1), -1);
        due("count(6)", x.count(6), 60);
        due("balance(1, 0, 60)", x.balance(1, 0, 60), 58);
        due("balance(1, 0, 59)", x.balance(1, 0, 59), 59);
        due("balance(1, 0, 61)", x.balance(1, 0, 61), -1000000);
        due("whose(60)", x.whose(60), -2);
    }

    private static void balance() {
        CHECK.promise("Promise 34");
        CoinBoats x = Check.told(TWO);
        x.book(1, 0, 10, true);
        x.book(1, 1, 7, true);
        x.book(2, 0, 5, false);
        x.book(1, 0, 4, false);
        x.looked(1, 3, 2);
        due("balance(1, 0, 0)", x.balance(1, 0, 0), 0);
        due("balance(1, 0, 3)", x.balance(1, 0, 3), 10);
        due("balance(1, 0, 4)", x.balance(1, 0, 4), 6);
        due("balance(1, 0, 5)", x.balance(1, 0, 5), 6);
        due("balance(1, 1, 5)", x.balance(1, 1, 5), 7);
        due("balance(2, 0, 5)", x.balance(2, 0, 5), -5);
        due("balance(3, 0, 5)", x.balance(3, 0, 5), 0);
        due("balance(0, 0, 5)", x.balance(0, 0, 5), -1000000);
        due("balance(4, 0, 5)", x.balance(4, 0, 5), -1000000);
        due("balance(1, 2, 5)", x.balance(1, 2, 5), -1000000);
        due("balance(1, -1, 5)", x.balance(1, -1, 5), -1000000);
        due("balance(1, 0, 6)", x.balance(1, 0, 6), -1000000);
        due("balance(1, 0, -1)", x.balance(1, 0, -1), -1000000);
    }

    private static void richest() {
        CHECK.promise("Promise 35");
        CoinBoats x = Check.told(TWO);
        due("richest(0)", x.richest(0), -2);
        due("richest(1)", x.richest(1), -1);
        due("richest(-1)", x.richest(-1), -1);
        x.book(1, 0, 1, false);
        due("1 by i", x.richest(1), 1);
        x.annul(0);
        due("nobody", x.richest(2), -2);
        x = Check.told(TWO);
        x.book(1, 0, 4, false);
        x.book(2, 1, 1, false);
        x.book(3, 0, 9, true);
        x.book(3, 1, 3, false);
        x.book(1, 0, 1, false);
        x.book(1, 1, 1, false);
        x.book(1, 0, 9, true);
        due("4 by i", x.richest(1), 1);
        due("5 by j", x.richest(2), 2);
        due("9 less by k", x.richest(3), 2);
        due("6 by k", x.richest(4), 3);
        due("10 by i", x.richest(6), 1);
        due("1 by i", x.richest(7), 3);
        x.annul(3);
        x.annul(1);
        x.annul(4);
        due("as much", x.richest(10), -2);
    }

    private static void jars() {
        CHECK.promise("Promise 36");
        CoinBoats x = Check.told(TWO);
        x.book(1, 0, 100, true);
        x.book(1, 1, 50, true);
        x.book(1, 1, 45, false);
        x.book(1, 0, 63, false);
        // l 1: 45 of the 50 are left; of the 90 k 3 are kept: 27.
        due("k", x.jars(1, 4, 5, 0), 3);
        due("l", x.jars(1, 4, 5, 1), 1);
        due("OFF", x.jars(1, 4, 5, 2), 0);
        // Both are small: k 1 and l 3 leave 63 and 32, as k 3 and l 1 do.
        due("k of two small ones", x.jars(1, 4, 6, 0), 1);
        due("l of two small ones", x.jars(1, 4, 6, 1), 3);
        due("OFF of two small ones", x.jars(1, 4, 6, 2), 13);
        // None is small: l alone.
        due("k, none small", x.jars(1, 4, 1, 0), 0);
        due("l, none small", x.jars(1, 4, 1, 1), 3);
        due("OFF, none small", x.jars(1, 4, 1, 2), 10 + 7);
        due("nothing came", x.jars(1, 2, 5, 1), 10);
        due("OFF", x.jars(1, 2, 5, 2), 0);
        due("k", x.jars(1, 2, 5, 0), 0);
        due("nothing KNOWN", x.jars(1, 0, 5, 0), 0);
        due("nothing KNOWN", x.jars(1, 0, 5, 1), 0);
        due("another island", x.jars(2, 4, 5, 2), 0);
        due("jars(0, ..)", x.jars(0, 4, 5, 0), -1);
        due("jars(4, ..)", x.jars(4, 4, 5, 0), -1);
        due("n 5", x.jars(1, 5, 5, 0), -1);
        due("n -1", x.jars(1, -1, 5, 0), -1);
        due("b 0", x.jars(1, 4, 0, 0), -1);
        due("b 502", x.jars(1, 4, 502, 0), -1);
        due("b 501", x.jars(1, 4, 501, 2), 13);
        due("what 3", x.jars(1, 4, 5, 3), -1);
        due("what -1", x.jars(1, 4, 5, -1), -1);
    }

    private static void jarsEnds() {
        CoinBoats x = Check.told("kind a 1 1 1;kind b 9 1 1;island i 1 1;");
        x.book(1, 0, 100, true);
        x.book(1, 1, 100, true);
        x.book(1, 1, 100, false);
        due("k 10", x.jars(1, 3, 9, 0), 10);
        due("l 0", x.jars(1, 3, 9, 1), 0);
        due("OFF 0", x.jars(1, 3, 9, 2), 0);
        due("k 10", x.ends(1, 3, 9, 0), 1010);
        due("k 9", x.ends(1, 3, 9, 10), 910);
        x.book(1, 0, 100, false);
        due("k 0", x.ends(1, 4, 9, 9), 0);
        due("k 0 and 1", x.ends(1, 4, 9, 10), 1);
    }

    private static void jarsAlike() {
        CoinBoats x = Check.told("kind a 1 1 1;island i 1 1;");
        x.book(1, 0, 4, true);
        x.book(1, 0, 15, true);
        x.book(1, 0, 15, false);
        // 19, not 4 and 15: 3 of ten are 5, 2 of ten 3; 19 - 3 = 16, of it 1 of ten is 1.
        due("k", x.jars(1, 3, 2, 0), 1);
        due("l", x.jars(1, 3, 2, 1), 2);
        due("OFF", x.jars(1, 3, 2, 2), 0);
        due("k of none small", x.jars(1, 3, 1, 0), 0);
        due("l of none small", x.jars(1, 3, 1, 1), 2);
        due("OFF of none small", x.jars(1, 3, 1, 2), 1);
        x.book(1, 0, 9, false);
        due("more came than went", x.jars(1, 4, 2, 2), 5);
        due("k", x.jars(1, 4, 2, 0), 0);
        due("l", x.jars(1, 4, 2, 1), 0);
        x.annul(2);
        due("9 of 19", x.jars(1, 5, 2, 2), 0);
        due("k", x.jars(1, 5, 2, 0), 1);
        due("l", x.jars(1, 5, 2, 1), 5);
    }

    private static void ends() {
        CHECK.promise("Promise 37");
        CoinBoats x = Check.told(TWO);
        x.book(1, 0, 100, true);
        x.book(1, 1, 50, true);
        x.book(1, 1, 45, false);
        x.book(1, 0, 63, false);
        due("OFF 0", x.ends(1, 4, 5, 0), 303);
        // k 2, l 2: 64 and 40; k 4, l 0: 60 and 50; k 4, l 1: 54; k 2, l 1: 72.
        due("OFF 5", x.ends(1, 4, 5, 5), 303);
        due("OFF 6", x.ends(1, 4, 5, 6), 203);
        due("OFF 8", x.ends(1, 4, 5, 8), 204);
        due("all", x.ends(1, 4, 5, 99999), 10);
        due("none small: any k", x.ends(1, 4, 1, 17), 10);
        due("none", x.ends(1, 4, 1, 16), -2);
        due("KNOWN by 2", x.ends(1, 2, 1, 0), 10);
        due("nothing came", x.ends(1, 2, 5, 0), 10);
        due("ends(0, ..)", x.ends(0, 4, 5, 0), -1);
        due("ends(4, ..)", x.ends(4, 4, 5, 0), -1);
        due("n 5", x.ends(1, 5, 5, 0), -1);
        due("n -1", x.ends(1, -1, 5, 0), -1);
        due("b 0", x.ends(1, 4, 0, 0), -1);
        due("b 502", x.ends(1, 4, 502, 0), -1);
        due("b 501", x.ends(1, 4, 501, 99999), 10);
        due("o -1", x.ends(1, 4, 5, -1), -1);
        due("o 100000", x.ends(1, 4, 5, 100000), -1);
    }

    private static void whose() {
        CHECK.promise("Promises 38, 39");
        CoinBoats x = Check.told(TWO);
        due("whose(0)", x.whose(0), -2);
        due("whose(1)", x.whose(1), -1);
        due("whose(-1)", x.whose(-1), -1);
        due("whoseWays of none", x.whoseWays(1, 0, true), -2);
        due("whoseWays(1, 1, true)", x.whoseWays(1, 1, true), -1);
        due("whoseWays(1, -1, true)", x.whoseWays(1, -1, true), -1);
        due("whoseWays(0, 0, true)", x.whoseWays(0, 0, true), -1);
        due("whoseWays(4, 0, true)", x.whoseWays(4, 0, true), -1);
        x.looked(1, 0, 0);
        due("0 looked at", x.whose(1), -2);
        x.looked(2, 1, 0);
        due("1 looked at", x.whose(2), 2);
        x.annul(1);
        x = Check.told(TWO);
        x.looked(1, 0, 0);
        x.looked(1, 4, 1);
        x.looked(2, 3, 2);
        x.looked(3, 3, 0);
        // m 10, f 3. i: 4 of 10: 210, 0 of 3 in 35; j: 3 of 10: 120, 2: 3 * 7, 3: 1; k: all.
        due("all ways of i", x.whoseWays(1, 4, false), 210);
        due("ways of more of i", x.whoseWays(1, 4, true), 175);
        due("all ways of j", x.whoseWays(2, 4, false), 120);
        due("ways of more of j", x.whoseWays(2, 4, true), 22);
        due("ways of more of k", x.whoseWays(3, 4, true), 120);
        due("whose(4)", x.whose(4), 2);
        due("one alone", x.whose(2), 1);
        due("m 7, f 3", x.whose(3), 2);
        x.annul(2);
        due("m 7, f 1: i 4 of 7, k 7 of 7", x.whose(5), 1);
        due("u 0", x.whoseWays(2, 5, true), -2);
        x.looked(2, 3, 2);
        x.looked(2, 1, 1);
        due("several rows of one", x.whoseWays(2, 7, true), 4 * 7 + 1);
        due("all", x.whoseWays(2, 7, false), 330);
        x = Check.told(TWO);
        x.looked(3, 5, 1);
        x.looked(2, 5, 1);
        due("alike", x.whose(2), 2);
        x.looked(1, 1, 0);
        due("none false is all luck", x.whose(3), 2);
    }

    private static void whoseLarge() {
        CoinBoats x = Check.told(TWO);
        x.looked(1, 30, 15);
        x.looked(2, 30, 15);
        due("m 60", x.whoseWays(1, 2, false), 118264581564861424L);
        // As many ways of 15 and more as of 15 and fewer: the half of all, and of those of just 15.
        due("half and more", x.whoseWays(1, 2, true), (118264581564861424L + 155117520L * 155117520L) / 2);
        due("alike", x.whose(2), 1);
        x.looked(3, 1, 0);
        due("m 61", x.whose(3), -2);
        due("m 61", x.whoseWays(1, 3, true), -2);
        due("m 61, no such island", x.whoseWays(4, 3, true), -1);
        due("m 61, no such n", x.whose(4), -1);
        x.annul(0);
        x.looked(1, 29, 15);
        due("m 60", x.whose(5), 1);
        due("m 60 of three", x.whoseWays(2, 5, false), 118264581564861424L);
        x = Check.told(TWO);
        x.looked(1, 20, 10);
        x.looked(2, 20, 11);
        x.looked(3, 20, 9);
        due("parts beyond 64 bits", x.whose(3), 2);
        x.annul(1);
        x.looked(2, 19, 10);
        due("10 of 19 of 59", x.whose(5), 2);
    }

    /** All small books of three islands, by ways counted apart: whose a or more of the f are, times the others' all. */
    private static void whoseOfAll() {
        CHECK.promise("Promise 38");
        Plain y = new Plain();
        y.feed(0x6b696e64, 0x20612031, 0x20312031, 0x3b202020, 0x20202020);
        y.feed(0x69736c61, 0x6e642069, 0x20312031, 0x3b202020, 0x20202020);
        y.feed(0x69736c61, 0x6e64206a, 0x20312031, 0x3b202020, 0x20202020);
        y.feed(0x69736c61, 0x6e64206b, 0x20312031, 0x3b202020, 0x20202020);
        due("read()", y.read(), 0);
        y.hold(0);
        for (int one = 0; one < 28; one++) {
            for (int two = 0; two < 28; two++) {
                CoinBoats x = Check.told(TWO);
                x.hold(0);
                for (int three = 0; three < 28; three += 1 + two % 3) {
                    int[] pairs = {one, two, three};
                    x.restore(0);
                    y.restore(0);
                    for (int p = 1; p <= 3; p++) {
                        int many = 0;
                        int wrong = pairs[p - 1];
                        while (wrong > many) {
                            wrong -= ++many;
                        }
                        x.looked(p, many, wrong);
                        y.looked(p, many, wrong);
                    }
                    due("whose(3) of " + one + ", " + two + ", " + three, x.whose(3), y.whose(3));
                }
            }
        }
    }

    private static void trickle() {
        CHECK.promise("Promise 40");
        CoinBoats x = new CoinBoats();
        // 25: 8 back (7.5), 17 left, 3 lost (3.4), 14 out; 5 back (4.2), 9, 1 lost, 8; 3 back, 5, 1 lost, 4; 2, 2, 0; 1, 1; 1.
        int[] came = {0, 8, 13, 16, 18, 19, 20, 20};
        for (int m = 0; m < came.length; m++) {
            due("trickle(25, 3, 2, " + m + ")", x.trickle(25, 3, 2, m), came[m]);
        }
        due("trickle(9999, 10, 10, 1)", x.trickle(9999, 10, 10, 1), 9999);
        due("trickle(9999, 0, 10, 60)", x.trickle(9999, 0, 10, 60), 0);
        due("trickle(9999, 1, 0, 1)", x.trickle(9999, 1, 0, 1), 1000);
        due("trickle(9999, 1, 10, 60)", x.trickle(9999, 1, 10, 60), 1000);
        due("trickle(0, 9, 0, 9)", x.trickle(0, 9, 0, 9), 0);
        due("trickle(1, 1, 9, 1)", x.trickle(1, 1, 9, 1), 1);
        due("trickle(9999, 1, 0, 60)", x.trickle(9999, 1, 0, 60), 9985);
        int[][] wrong = {{-1, 1, 1, 1}, {10000, 1, 1, 1}, {1, -1, 1, 1}, {1, 11, 1, 1}, {1, 1, -1, 1}, {1, 1, 11, 1},
            {1, 1, 1, -1}, {1, 1, 1, 61}};
        for (int[] w : wrong) {
            due("trickle of what is not", x.trickle(w[0], w[1], w[2], w[3]), -1);
        }
    }

    private static void trickled() {
        CHECK.promise("Promise 41");
        CoinBoats x = new CoinBoats();
        // Out: 25, 14, 8, 4, 2, 1, 0.
        due("trickled(25, 3, 2, 25)", x.trickled(25, 3, 2, 25), 0);
        due("trickled(25, 3, 2, 24)", x.trickled(25, 3, 2, 24), 1);
        due("trickled(25, 3, 2, 14)", x.trickled(25, 3, 2, 14), 1);
        due("trickled(25, 3, 2, 13)", x.trickled(25, 3, 2, 13), 2);
        due("trickled(25, 3, 2, 4)", x.trickled(25, 3, 2, 4), 3);
        due("trickled(25, 3, 2, 1)", x.trickled(25, 3, 2, 1), 5);
        due("trickled(25, 3, 2, 0)", x.trickled(25, 3, 2, 0), 6);
        due("trickled(25, 3, 2, 9999)", x.trickled(25, 3, 2, 9999), 0);
        due("1 is never lost", x.trickled(9999, 0, 9, 0), -2);
        due("9 stay", x.trickled(9999, 0, 1, 9), trickledSlowly(9999, 0, 1, 9));
        due("8 never", x.trickled(9999, 0, 1, 8), -2);
        due("nothing goes", x.trickled(9999, 0, 0, 9998), -2);
        due("all at once", x.trickled(9999, 0, 10, 0), 1);
        int[][] wrong = {{-1, 1, 1, 1}, {10000, 1, 1, 1}, {1, -1, 1, 1}, {1, 11, 1, 1}, {1, 1, -1, 1}, {1, 1, 11, 1},
            {1, 1, 1, -1}, {1, 1, 1, 10000}};
        for (int[] w : wrong) {
            due("trickled of what is not", x.trickled(w[0], w[1], w[2], w[3]), -1);
        }
    }

    private static int trickledSlowly(int n, int a, int w, int x) {
        int months = 0;
        double out = n;
        while (out > x) {
            out -= Math.ceil(out * a / 10);
            out -= Math.floor(out * w / 10);
            months++;
        }
        return months;
    }

    private static void burnAt() {
        CHECK.promise("Promise 42");
        CoinBoats x = Check.told("kind a 1 1 0;kind b 1 1 99;kind c 1 1 30;kind d 1 1 24;");
        // With s 1: NEW, NEW + c over 2, NEW + 5c over 3, NEW + 14c over 4.
        due("NEW 0", x.burnAt(0, 1, 1), 1);
        due("NEW 0, c 0: alike", x.burnAt(0, 0, 1), 1);
        due("c 0", x.burnAt(1, 0, 12), 4);
        due("30 of 1, 31 of 2, 35 of 3, 44 of 4", x.burnAt(2, 1, 1), 4);
        due("30, 36 of 2, 60 of 3, 114 of 4", x.burnAt(2, 3, 2), 2);
        due("30, 33, 45 of 3, 72 of 4", x.burnAt(2, 3, 1), 3);
        due("30, 60 of 2: alike", x.burnAt(2, 30, 1), 1);
        due("30, 58 of 2", x.burnAt(2, 14, 2), 2);
        due("30, 60 of 2: alike", x.burnAt(2, 5, 6), 1);
        due("24, 27 of 2, 39 of 3, 66 of 4", x.burnAt(3, 3, 1), 3);
        due("99, 103 of 2, 119 of 3, 155 of 4", x.burnAt(1, 2, 2), 4);
        due("30, 35 of 2, 55 of 3, 100 of 4", x.burnAt(2, 5, 1), 2);
        // 33 of 2 and 49.5 of 3 would be alike: 24 + 24, c 24: 48 of 2 with 24 of 1.
        due("24, 48 of 2: alike", x.burnAt(3, 24, 1), 1);
        due("24, 47 of 2", x.burnAt(3, 23, 1), 2);
        due("burnAt(4, 1, 1)", x.burnAt(4, 1, 1), -1);
        due("burnAt(-1, 1, 1)", x.burnAt(-1, 1, 1), -1);
        due("c -1", x.burnAt(0, -1, 1), -1);
        due("c 100", x.burnAt(0, 100, 1), -1);
        due("c 99", x.burnAt(1, 99, 1), 1);
        due("s 0", x.burnAt(0, 1, 0), -1);
        due("s 13", x.burnAt(0, 1, 13), -1);
        due("s 12", x.burnAt(1, 9, 12), 1);
    }

    private static void sort() {
        CHECK.promise("Promise 43");
        CoinBoats x = new CoinBoats();
        // Here 10 * (300 + 20 * 7), there 10 * (200 + 30 * 7) + 100 * f.
        due("4400, 4400", x.sort(10, 3, 20, 2, 30, 7, 3), 0);
        due("4400, 4300", x.sort(10, 3, 20, 2, 30, 7, 2), 1);
        due("4400, 4500", x.sort(10, 3, 20, 2, 30, 7, 4), 0);
        due("no piece", x.sort(0, 3, 20, 2, 30, 7, 0), 0);
        due("nothing wrong there", x.sort(1, 0, 1, 0, 0, 1, 0), 1);
        due("nothing wrong here", x.sort(1, 0, 0, 0, 1, 1, 0), 0);
        due("all for nothing", x.sort(1, 0, 0, 0, 0, 0, 0), 0);
        due("999900, 999900", x.sort(1, 9999, 0, 0, 0, 0, 9999), 0);
        due("999900, 999800", x.sort(1, 9999, 0, 0, 0, 0, 9998), 1);
        due("the most", x.sort(9999, 9999, 100, 9999, 99, 9999, 9999), 1);
        due("the most", x.sort(9999, 9999, 99, 9999, 100, 9999, 0), 0);
        due("beyond 32 bits", x.sort(9999, 9999, 100, 0, 100, 9999, 9999), 1);
        int[][] wrong = {{-1, 1, 1, 1, 1, 1, 1}, {10000, 1, 1, 1, 1, 1, 1}, {1, -1, 1, 1, 1, 1, 1}, {1, 10000, 1, 1, 1, 1, 1},
            {1, 1, -1, 1, 1, 1, 1}, {1, 1, 101, 1, 1, 1, 1}, {1, 1, 1, -1, 1, 1, 1}, {1, 1, 1, 10000, 1, 1, 1},
            {1, 1, 1, 1, -1, 1, 1}, {1, 1, 1, 1, 101, 1, 1}, {1, 1, 1, 1, 1, -1, 1}, {1, 1, 1, 1, 1, 10000, 1},
            {1, 1, 1, 1, 1, 1, -1}, {1, 1, 1, 1, 1, 1, 10000}};
        for (int[] w : wrong) {
            due("sort of what is not", x.sort(w[0], w[1], w[2], w[3], w[4], w[5], w[6]), -1);
        }
    }

    private static void slots() {
        CHECK.promise("Promises 44, 45");
        CoinBoats x = Check.told(TWO + "want i a=9;boat i 0 99 4;");
        due("restore(0)", x.restore(0) ? 1 : 0, 0);
        due("hold(2)", x.hold(2) ? 1 : 0, 0);
        due("hold(-1)", x.hold(-1) ? 1 : 0, 0);
        due("count(9)", x.count(9), 0);
        x.strike(0, 5);
        x.send(0, 1, 0, 2, false);
        x.book(1, 0, 3, true);
        due("hold(1)", x.hold(1) ? 1 : 0, 1);
        due("count(9)", x.count(9), 1);
        due("restore(0)", x.restore(0) ? 1 : 0, 0);
        due("months", x.months(1, 2), 14);
        x.book(1, 0, 4, true);
        x.send(5, 1, 0, 1, false);
        x.lay(2, 1, 3, 6);
        due("hold(0)", x.hold(0) ? 1 : 0, 1);
        Check.feed(x, "kind");
        due("restore(1)", x.restore(1) ? 1 : 0, 1);
        due("the tape stays", x.count(8), 4);
        due("TIME", x.count(7), 0);
        due("SENDINGS", x.count(5), 1);
        due("done(0)", x.done(0), -2);
        due("BOOKS", x.count(6), 1);
        due("SPENT", x.spent(0), 5);
        due("LACKS", x.lacks(1, 0), 0);
        due("pieces", x.has(0, 0, 0), 5);
        due("pieces", x.has(2, 1, 3), 0);
        due("count(9)", x.count(9), 2);
        x.burn(0, 0);
        x.months(1, 1);
        due("done(0)", x.done(0), 4);
        due("restore(0)", x.restore(0) ? 1 : 0, 1);
        due("done(0)", x.done(0), 0);
        due("TIME", x.count(7), 2);
        due("SENDINGS", x.count(5), 2);
        due("BOOKS", x.count(6), 2);
        due("balance", x.balance(1, 0, 2), 7);
        due("SPENT", x.spent(0), 5 + 4 + 14);
        due("HARM", x.spent(1), 14);
        due("BOATS", x.spent(2), 4);
        due("NEW", x.spent(3), 5);
        due("LACKS", x.lacks(1, 0), 14);
        due("pieces", x.has(1, 0, 0), 2);
        due("pieces", x.has(2, 1, 3), 6);
        due("restore(1) once more", x.restore(1) ? 1 : 0, 1);
        due("pieces", x.has(0, 0, 0), 5);
        due("restore(2)", x.restore(2) ? 1 : 0, 0);
        due("restore(-1)", x.restore(-1) ? 1 : 0, 0);
        due("hold(1) over what it held", x.hold(1) ? 1 : 0, 1);
        due("count(9)", x.count(9), 2);
        due("a FAULT", x.read(), 1);
        due("place()", x.place(), 4);
        due("restore(0)", x.restore(0) ? 1 : 0, 1);
        due("place() stays", x.place(), 4);
    }

    private static void heldApart() {
        CoinBoats x = new CoinBoats();
        due("hold(0) of nothing told", x.hold(0) ? 1 : 0, 1);
        x.months(1, 3);
        due("restore(0)", x.restore(0) ? 1 : 0, 1);
        due("TIME", x.count(7), 0);
        Check.tell(x, TWO);
        due("a text empties SLOTS", x.count(9), 0);
        due("restore(0)", x.restore(0) ? 1 : 0, 0);
        x.hold(1);
        x.lay(0, 0, 0, 7);
        x.restore(1);
        due("has(0, 0, 0)", x.has(0, 0, 0), 0);
        x.lay(0, 0, 0, 7);
        due("what is done behind restore() is not held", x.restore(1) ? 1 : 0, 1);
        due("has(0, 0, 0)", x.has(0, 0, 0), 0);
    }

    private static void count() {
        CHECK.promise("Promise 46");
        CoinBoats x = Check.told("kind a 1 1 1;kind b 1 1 1;island i 1 1;island j 1 1;island k 1 1;"
            + "want i a=1;want i a=2;want j a=3;want k b=1;flow i j a=1;flow i j a=1;flow i j a=1;flow i j a=1;flow i j b=1;"
            + "lost i a=1;lost i a=1;lost j a=1;lost i a=1;lost i a=1;lost i a=1;wear a=1;wear b=1;wear a=1;wear a=1;"
            + "wear a=1;wear a=1;wear a=1;boat i 0 1 1;boat i 1 1 1;boat i 2 1 1;boat i 3 1 1;boat j 0 1 1;boat i 4 1 1;"
            + "boat i 5 1 1;boat i 6 1 1;");
        int[] want = {2, 3, 4, 5, 8, 0, 0, 0, 0, 0, 6, 7};
        for (int what = 0; what < 12; what++) {
            due("count(" + what + ")", x.count(what), want[what]);
        }
        x.send(0, 1, 0, 1, false);
        x.send(0, 1, 0, 1, false);
        x.book(1, 0, 1, true);
        x.annul(0);
        x.looked(1, 1, 1);
        x.months(1, 4);
        x.feed(1, 2, 3, 4, 5);
        x.hold(0);
        x.hold(0);
        due("count(5)", x.count(5), 2);
        due("count(6)", x.count(6), 3);
        due("count(7)", x.count(7), 4);
        due("count(8)", x.count(8), 20);
        due("count(9)", x.count(9), 1);
        due("count(12)", x.count(12), -1);
        due("count(-1)", x.count(-1), -1);
    }
}
