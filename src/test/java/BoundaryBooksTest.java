/** Boundary cases of the BOOKS: promises 31 to 39, and term V up to WHOSE. */
public final class BoundaryBooksTest {
    private static final Check CHECK = new Check();
    private static final String TWO = "kind k 1 1 3;kind l 5 1 10;island i 1 1;island j 1 1;";
    private static final String ISLANDS = "island i 1 1;island j 1 1;island l 1 1;island m 1 1;";
    private static final int[] FAR = {-1, -2, -1000000, Integer.MIN_VALUE, Integer.MAX_VALUE, 99999999};

    public static void main(String[] args) {
        Sentences s = new Sentences(CHECK);
        sentences(s);
        s.run();
    }

    static void sentences(Sentences s) {
        s.hold("Term V", "BOOKS, 60 rows at most, numbered from 0 on;", BoundaryBooksTest::sixtyRows);
        s.hold("Term V", "KNOWN by n: the first n of them.", BoundaryBooksTest::knownByFirst);
        s.hold("Term V", "WENT, CAME: an ISLAND, a KIND, how many (0 .. 9999).", BoundaryBooksTest::wentAndCame);
        s.hold("Term V", "FALSE: an ISLAND, of so many looked at (0 .. 60) so many were false.", BoundaryBooksTest::lookedAt);
        s.hold("Term V", "VOID: of another row (no VOID), which is none then for those who KNOW the VOID.", BoundaryBooksTest::voids);
        s.hold("Term V", "BALANCE of an ISLAND and a KIND: what WENT less what CAME.", BoundaryBooksTest::balances);
        s.hold("Term V", "With l of ten lost and k of ten kept of what is small (WORTH below b):", BoundaryBooksTest::small);
        s.hold("Term V", "of what WENT of a KIND l of ten (rounded down) are lost, of the rest, if it is small, k of ten (rounded down)"
            + " are kept; what is left should have CAME;", BoundaryBooksTest::roundedDown);
        s.hold("Term V", "OFF is how far that is from what CAME, the sum over all KINDS of an ISLAND.", BoundaryBooksTest::off);
        s.hold("Term V", "THE JARS: k and l (0 .. 10 each) with the least OFF, of alike ones the least k, then l;",
            BoundaryBooksTest::jarsAlike);
        s.hold("Term V", "ENDS: the least and the greatest k with which some l is OFF by no more than a told number.",
            BoundaryBooksTest::noMoreThan);
        s.hold("Term V", "WHOSE: of all m looked at f are false, of an ISLAND's u a: of all ways to take u of the m those by which a or"
            + " more of the f are taken, of all;", BoundaryBooksTest::waysToTake);
        s.hold("Term V", "the ISLAND (with u above 0) with the least part,", BoundaryBooksTest::leastPart);
        s.hold("Term V", "of alike ones the first.", BoundaryBooksTest::partsAlike);
        s.hold("Term V", "(m 60 at most; else -2.)", BoundaryBooksTest::sixtyLookedAt);
        s.hold("Term V", "(NONE is looked at ahead of -2, everywhere.)", BoundaryBooksTest::noneAhead);
        entries(s);
        answers(s);
    }

    private static void entries(Sentences s) {
        s.hold("Promise 31", "WENT (went) or CAME: the row's number.", BoundaryBooksTest::bookNumbers);
        s.hold("Promise 31", "NONE, and nothing happens: 60 are there,", () -> sixtyFirst(0));
        s.hold("Promise 31", "no such ones.", BoundaryBooksTest::noSuchBook);
        s.hold("Promise 32", "FALSE: the row's number;", BoundaryBooksTest::lookNumbers);
        s.hold("Promise 32", "NONE likewise;", BoundaryBooksTest::noSuchLook);
        s.hold("Promise 32", "more false than looked at.", BoundaryBooksTest::moreFalse);
        s.hold("Promise 33", "A VOID: the row's number;", BoundaryBooksTest::voidNumbers);
        s.hold("Promise 33", "NONE likewise;", () -> sixtyFirst(2));
        s.hold("Promise 33", "no such row, a VOID.", BoundaryBooksTest::noSuchVoid);
    }

    private static void answers(Sentences s) {
        s.hold("Promise 34", "BALANCE as KNOWN by n;", BoundaryBooksTest::balanceAsKnown);
        s.hold("Promise 34", "-1000000: no such ones.", BoundaryBooksTest::noSuchBalance);
        s.hold("Promise 35", "The ISLAND from which, all KINDS by WORTH, most more CAME than WENT;", BoundaryBooksTest::richest);
        s.hold("Promise 35", "-2: from none did more;", BoundaryBooksTest::nobodyRich);
        s.hold("Promise 35", "NONE: no such n.", BoundaryBooksTest::noSuchRichest);
        s.hold("Promise 36", "THE JARS: what 0 k, 1 l, 2 OFF; NONE: no such ones (b 1 .. 501).", BoundaryBooksTest::noSuchJars);
        s.hold("Promise 37", "ENDS: OFF by no more than o (0 .. 99999): 100 * the least k + the greatest k;",
            BoundaryBooksTest::bothEnds);
        s.hold("Promise 37", "-2: there is none;", BoundaryBooksTest::noEnds);
        s.hold("Promise 37", "NONE: no such ones.", BoundaryBooksTest::noSuchEnds);
        s.hold("Promise 38", "WHOSE; -2: nobody was looked at, m above 60;", BoundaryBooksTest::whoseOfNobody);
        s.hold("Promise 38", "NONE: no such n.", BoundaryBooksTest::noSuchWhose);
        s.hold("Promise 39", "Its ways for an ISLAND (more), else all;", BoundaryBooksTest::waysOfMoreOrAll);
        s.hold("Promise 39", "-2 likewise, u 0;", BoundaryBooksTest::noneTaken);
        s.hold("Promise 39", "-1: no such ones.", BoundaryBooksTest::noSuchWays);
    }

    private static void due(String call, long got, long want) {
        CHECK.due(call, got, want);
    }

    private static void sixtyRows() {
        for (int sort = 0; sort < 3; sort++) {
            CoinBoats x = Check.told(TWO);
            for (int row = 0; row < 60; row++) {
                boolean voids = sort == 2 && row > 0;
                due("row " + row, voids ? x.annul(0) : sort == 1 ? x.looked(1, 1, 1) : x.book(1, 0, row + 1, true), row);
            }
            String ahead = Picture.of(x);
            due("a 61st, CAME", x.book(1, 0, 1, false), -1);
            due("a 61st, WENT", x.book(2, 1, 9999, true), -1);
            due("a 61st, FALSE", x.looked(2, 1, 1), -1);
            due("a 61st, VOID", x.annul(0), -1);
            CHECK.due("nothing happens", Picture.of(x), ahead);
            due("balance(1, 0, 60)", x.balance(1, 0, 60), sort == 0 ? 1830 : 0);
            due("balance(1, 0, 61)", x.balance(1, 0, 61), -1000000);
        }
    }

    /** A 61st row: WENT or CAME (0), FALSE (1), VOID (2). */
    private static void sixtyFirst(int sort) {
        CoinBoats x = Check.told(TWO);
        for (int row = 0; row < 59; row++) {
            x.book(1, 0, 1, true);
        }
        due("the 60th", sort == 0 ? x.book(1, 0, 1, false) : sort == 1 ? x.looked(1, 2, 1) : x.annul(58), 59);
        String ahead = Picture.of(x);
        for (int row = 0; row < 3; row++) {
            due("a 61st", sort == 0 ? x.book(2, 1, row, row == 1) : sort == 1 ? x.looked(2, row, 0) : x.annul(row), -1);
        }
        CHECK.due("nothing happens", Picture.of(x), ahead);
        due("all 60 are KNOWN", x.balance(1, 0, 60), sort == 1 ? 59 : 58);
    }

    private static void bookNumbers() {
        CoinBoats x = Check.told(TWO);
        for (int row = 0; row < 60; row++) {
            due("row " + row, x.book(1 + row % 2, row / 2 % 2, row * 169, row % 3 == 0), row);
        }
        x = Check.told(TWO);
        due("refused", x.book(0, 0, 1, true), -1);
        due("the first one all the same", x.book(1, 0, 1, true), 0);
        due("WENT is more", x.balance(1, 0, 1), 1);
        due("CAME", x.book(1, 0, 3, false), 1);
        due("CAME is less", x.balance(1, 0, 2), -2);
    }

    private static void lookNumbers() {
        CoinBoats x = Check.told(TWO);
        for (int row = 0; row < 60; row++) {
            due("row " + row, x.looked(1 + row % 2, row, row / 2), row);
        }
        x = Check.told(TWO);
        due("refused", x.looked(1, 1, 2), -1);
        due("the first one all the same", x.looked(1, 2, 1), 0);
        due("behind a WENT", x.book(1, 0, 1, true), 1);
        due("the third row", x.looked(1, 2, 1), 2);
    }

    private static void voidNumbers() {
        CoinBoats x = Check.told(TWO);
        for (int row = 0; row < 30; row++) {
            x.book(1, 0, 1, true);
        }
        for (int row = 0; row < 30; row++) {
            due("of row " + row, x.annul(29 - row), 30 + row);
            due("balance", x.balance(1, 0, 31 + row), 29 - row);
        }
        due("a 61st", x.annul(0), -1);
    }

    private static void balanceAsKnown() {
        CoinBoats x = Check.told(TWO);
        for (int row = 0; row < 60; row++) {
            x.book(1, 0, row, row % 2 == 0);
        }
        int sum = 0;
        for (int n = 0; n <= 60; n++) {
            due("KNOWN by " + n, x.balance(1, 0, n), sum);
            sum += n % 2 == 0 ? n : -n;
        }
        due("KNOWN by 61", x.balance(1, 0, 61), -1000000);
    }

    private static void knownByFirst() {
        CoinBoats x = Check.told(TWO);
        x.book(1, 0, 1, true);
        x.looked(1, 3, 1);
        x.book(1, 0, 20, true);
        x.book(1, 0, 300, true);
        x.looked(1, 5, 0);
        int[] balances = {0, 1, 1, 21, 321, 321};
        long[] ways = {-2, -2, 1, 1, 1, 1};
        for (int n = 0; n <= 5; n++) {
            due("KNOWN by " + n, x.balance(1, 0, n), balances[n]);
            due("KNOWN by " + n, x.whoseWays(1, n, false), ways[n]);
        }
        due("KNOWN by 6", x.balance(1, 0, 6), -1000000);
        due("KNOWN by -1", x.balance(1, 0, -1), -1000000);
        due("KNOWN by 6", x.richest(6), -1);
        due("KNOWN by 6", x.jars(1, 6, 1, 0), -1);
        due("KNOWN by 6", x.ends(1, 6, 1, 0), -1);
        due("KNOWN by 6", x.whose(6), -1);
        due("KNOWN by 6", x.whoseWays(1, 6, true), -1);
    }

    private static void wentAndCame() {
        CoinBoats x = Check.told(TWO);
        due("WENT 0", x.book(1, 0, 0, true), 0);
        due("CAME 0", x.book(1, 0, 0, false), 1);
        due("WENT 9999", x.book(1, 0, 9999, true), 2);
        due("CAME 9999", x.book(2, 1, 9999, false), 3);
        due("10000", x.book(1, 0, 10000, true), -1);
        due("-1", x.book(1, 0, -1, true), -1);
        due("balance(1, 0, 4)", x.balance(1, 0, 4), 9999);
        due("balance(2, 1, 4)", x.balance(2, 1, 4), -9999);
        for (int row = 4; row < 60; row++) {
            x.book(1, 0, 9999, true);
        }
        due("57 * 9999", x.balance(1, 0, 60), 569943);
        due("OFF by all, none lost", x.jars(1, 60, 1, 2), 0);
    }

    private static void lookedAt() {
        CoinBoats x = Check.told(TWO);
        due("0 of 0", x.looked(1, 0, 0), 0);
        due("nobody was looked at", x.whose(1), -2);
        due("0 of 1", x.looked(1, 1, 0), 1);
        due("one was", x.whose(2), 1);
        due("1 of 1", x.looked(2, 1, 1), 2);
        due("58 of 58", x.looked(1, 58, 58), 3);
        due("m 60", x.whose(4), 2);
        x = Check.told(TWO);
        due("60 of 60", x.looked(1, 60, 60), 0);
        due("all are false", x.whoseWays(1, 1, true), 1);
        due("61", x.looked(1, 61, 0), -1);
        due("-1", x.looked(1, -1, -1), -1);
        due("0 of 60", x.looked(2, 60, 0), 1);
        due("m 120", x.whose(2), -2);
    }

    private static void voids() {
        CoinBoats x = Check.told(TWO);
        x.book(1, 0, 1, true);
        x.book(1, 0, 20, true);
        x.looked(1, 5, 2);
        due("of row 0", x.annul(0), 3);
        due("of a FALSE", x.annul(2), 4);
        due("of a row that is void", x.annul(0), 5);
        due("of a VOID", x.annul(3), -1);
        int[] balances = {0, 1, 21, 21, 20, 20, 20};
        long[] ways = {-2, -2, -2, 1, 1, -2, -2};
        for (int n = 0; n <= 6; n++) {
            due("KNOWN by " + n, x.balance(1, 0, n), balances[n]);
            due("KNOWN by " + n, x.whoseWays(1, n, false), ways[n]);
        }
        due("a row behind", x.book(1, 0, 300, true), 6);
        due("KNOWN by 7", x.balance(1, 0, 7), 320);
        due("of it", x.annul(6), 7);
        due("KNOWN by 7", x.balance(1, 0, 7), 320);
        due("KNOWN by 8", x.balance(1, 0, 8), 20);
        due("of row 1, all are void", x.annul(1), 8);
        due("KNOWN by 9", x.balance(1, 0, 9), 0);
    }

    private static void balances() {
        CoinBoats x = Check.told(TWO);
        due("nothing is KNOWN", x.balance(1, 0, 0), 0);
        x.book(1, 0, 7, true);
        x.book(1, 0, 9, false);
        x.book(1, 1, 30, true);
        x.book(2, 0, 500, false);
        due("balance(1, 0, 4)", x.balance(1, 0, 4), -2);
        due("balance(1, 1, 4)", x.balance(1, 1, 4), 30);
        due("balance(2, 0, 4)", x.balance(2, 0, 4), -500);
        due("balance(2, 1, 4)", x.balance(2, 1, 4), 0);
        due("balance(1, 0, 1)", x.balance(1, 0, 1), 7);
        for (int row = 4; row < 60; row++) {
            x.book(2, 0, 9999, false);
        }
        due("56 * 9999 and 500", x.balance(2, 0, 60), -560444);
    }

    /** What WENT and CAME of each KIND at ISLAND 1, KINDS of these WORTHS. */
    private static CoinBoats books(int[] worths, int[] went, int[] came) {
        StringBuilder text = new StringBuilder();
        for (int kind = 0; kind < worths.length; kind++) {
            text.append("kind ").append((char) ('a' + kind)).append(' ').append(worths[kind]).append(" 1 1;");
        }
        CoinBoats x = Check.told(text + ISLANDS);
        for (int kind = 0; kind < worths.length; kind++) {
            x.book(1, kind, went[kind], true);
            x.book(1, kind, came[kind], false);
        }
        return x;
    }

    private static int[] of(int... row) {
        return row;
    }

    private static void jars(CoinBoats x, int b, int k, int l, int off) {
        int n = x.count(6);
        due("k of b " + b, x.jars(1, n, b, 0), k);
        due("l of b " + b, x.jars(1, n, b, 1), l);
        due("OFF of b " + b, x.jars(1, n, b, 2), off);
    }

    private static void small() {
        // Nothing is lost of WORTH 5, so what is missing of WORTH 1 is kept: if it is small.
        CoinBoats x = books(of(1, 5), of(100, 100), of(60, 100));
        jars(x, 1, 0, 0, 40);
        jars(x, 2, 4, 0, 0);
        jars(x, 5, 4, 0, 0);
        // Both are small with b 6: as much is left of both, OFF by 40 from 60 to 100.
        jars(x, 6, 0, 0, 40);
        x = books(of(500, 1), of(10, 0), of(0, 0));
        due("WORTH 500 with b 500 is not small", x.ends(1, 4, 500, 0), 10);
        x = books(of(500, 1), of(100, 100), of(60, 100));
        jars(x, 500, 0, 0, 40);
        jars(x, 501, 0, 0, 40);
        x = books(of(500, 499), of(100, 100), of(100, 60));
        jars(x, 499, 0, 0, 40);
        jars(x, 500, 4, 0, 0);
        // l is of all, small or not.
        jars(books(of(1, 5), of(100, 100), of(60, 60)), 2, 0, 4, 0);
    }

    /** What should have CAME of 19, of a small KIND alone, by k and l. */
    private static int left(int k, int l) {
        int rest = 19 - (int) Math.floor(19 * l / 10.0);
        return rest - (int) Math.floor(rest * k / 10.0);
    }

    private static void roundedDown() {
        for (int came = 0; came <= 19; came++) {
            int[] best = {-1, -1, 99};
            for (int k = 0; k <= 10; k++) {
                for (int l = 0; l <= 10; l++) {
                    int off = Math.abs(left(k, l) - came);
                    best = off < best[2] ? of(k, l, off) : best;
                }
            }
            jars(books(of(1), of(19), of(came)), 2, best[0], best[1], best[2]);
        }
        // 1 of ten of 19 is 1; of 9 none.
        jars(books(of(1), of(19), of(18)), 1, 0, 1, 0);
        jars(books(of(1), of(9), of(9)), 1, 0, 0, 0);
        due("of 9, 1 of ten is none", books(of(1), of(9), of(9)).ends(1, 2, 2, 0), 1);
        due("of 10, 1 of ten is one", books(of(1), of(10), of(10)).ends(1, 2, 2, 0), 0);
        // Of the rest, not of all: 10 of ten lost leave none to keep; all is lost or all is kept.
        due("all is lost or kept", books(of(1), of(100), of(0)).ends(1, 2, 2, 0), 10);
        due("nothing is lost, all is kept", books(of(1, 5), of(100, 100), of(0, 100)).ends(1, 4, 2, 0), 1010);
        // What WENT in all, not row by row.
        CoinBoats x = books(of(1), of(5), of(9));
        x.book(1, 0, 5, true);
        jars(x, 1, 0, 1, 0);
    }

    private static void off() {
        // No l is right for both: with l 2 OFF by 20 here and by 0 there.
        jars(books(of(1, 5), of(100, 100), of(100, 80)), 1, 0, 0, 20);
        jars(books(of(1, 5), of(100, 200), of(100, 160)), 1, 0, 2, 20);
        // More CAME than WENT.
        jars(books(of(1), of(3), of(9)), 2, 0, 0, 6);
        jars(books(of(1), of(0), of(9999)), 2, 0, 0, 9999);
        // All KINDS of the ISLAND, none of another.
        jars(books(of(1, 2, 3, 4, 5, 6), of(0, 0, 0, 0, 0, 0), of(1, 20, 300, 4000, 500, 60)), 7, 0, 0, 4881);
        CoinBoats x = books(of(1), of(0), of(0));
        x.book(2, 0, 9999, false);
        jars(x, 2, 0, 0, 0);
        for (int row = 3; row < 60; row++) {
            x.book(1, 0, 9999, false);
        }
        jars(x, 2, 0, 0, 57 * 9999);
    }

    private static void jarsAlike() {
        // Nothing WENT: all are alike.
        jars(books(of(1), of(0), of(0)), 2, 0, 0, 0);
        // All of 100 gone: l 10 with k 0, ahead of k 10 with l 0.
        jars(books(of(1), of(100), of(0)), 2, 0, 10, 0);
        jars(books(of(1), of(100), of(0)), 1, 0, 10, 0);
        // 10 of ten kept, the greatest.
        jars(books(of(1, 5), of(100, 100), of(0, 100)), 2, 10, 0, 0);
        // 72 is 100 less 2 of ten, less 1 of ten, or the other way round: the least k.
        jars(books(of(1), of(100), of(72)), 2, 1, 2, 0);
        // k 0 is ahead of a lesser l: 90 is k 0, l 1 or k 1, l 0.
        jars(books(of(1), of(100), of(90)), 2, 0, 1, 0);
        // Of 3, l 0 .. 3 all lose none.
        jars(books(of(1), of(3), of(3)), 1, 0, 0, 0);
        jars(books(of(1), of(3), of(2)), 1, 0, 4, 0);
        // OFF by 5 either way: 95 is 100 less 5, or 90 and 5.
        jars(books(of(1), of(100), of(95)), 1, 0, 0, 5);
    }

    private static void noMoreThan() {
        // k 10, l 0 leaves 0 and 100; each k less is OFF by 10 more.
        CoinBoats x = books(of(1, 5), of(100, 100), of(0, 100));
        due("o 0", x.ends(1, 4, 2, 0), 1010);
        for (int k = 10; k >= 1; k--) {
            due("o " + (99 - 10 * k + 10), x.ends(1, 4, 2, 99 - 10 * k + 10), 100 * k + 10);
            due("o " + (100 - 10 * k + 10), x.ends(1, 4, 2, 100 - 10 * k + 10), 100 * (k - 1) + 10);
        }
        due("o 99999", x.ends(1, 4, 2, 99999), 10);
        x = books(of(1, 5), of(100, 100), of(100, 100));
        due("o 0", x.ends(1, 4, 2, 0), 0);
        due("o 9", x.ends(1, 4, 2, 9), 0);
        due("o 10", x.ends(1, 4, 2, 10), 1);
        due("o 100", x.ends(1, 4, 2, 100), 10);
        // The least and the greatest, also if one between is not.
        x = books(of(1), of(100), of(0));
        due("k 0 by l 10, k 10 by l 0, all by l 10", x.ends(1, 2, 2, 0), 10);
        x = books(of(1, 5), of(5, 0), of(3, 0));
        // Of 5: l 0: k 4, 5 keep 2; l 4: 3 left, k 0 .. 3.
        due("5 and 3", x.ends(1, 4, 2, 0), 5);
    }

    private static void bothEnds() {
        // One k alone, 0 to 10: nothing is lost of WORTH 5, so many are kept of WORTH 1.
        for (int k = 0; k <= 10; k++) {
            CoinBoats x = books(of(1, 5), of(100, 100), of(100 - 10 * k, 100));
            due("k " + k + " alone", x.ends(1, 4, 2, 0), 101 * k);
            int least = Math.max(0, k - 1);
            int greatest = Math.min(10, k + 1);
            due("k " + k + " and those next to it", x.ends(1, 4, 2, 10), 100 * least + greatest);
            due("k " + k + ", not yet those next to it", x.ends(1, 4, 2, 9), 101 * k);
        }
        CoinBoats x = books(of(1), of(0), of(0));
        due("any k", x.ends(1, 2, 2, 0), 10);
        due("o 99999", x.ends(1, 2, 2, 99999), 10);
        due("o 100000", x.ends(1, 2, 2, 100000), -1);
        due("o -1", x.ends(1, 2, 2, -1), -1);
    }

    private static void noEnds() {
        CoinBoats x = books(of(1), of(3), of(9));
        due("OFF by 6", x.ends(1, 2, 2, 5), -2);
        due("OFF by 6", x.ends(1, 2, 2, 6), 3);
        x = books(of(1), of(0), of(9999));
        due("OFF by 9999", x.ends(1, 2, 2, 9998), -2);
        due("OFF by 9999", x.ends(1, 2, 2, 9999), 10);
        for (int row = 2; row < 60; row++) {
            x.book(1, 0, 9999, false);
        }
        due("OFF by 59 * 9999", x.ends(1, 60, 2, 99999), -2);
        due("OFF by 10 * 9999", x.ends(1, 11, 2, 99990), 10);
        due("OFF by 10 * 9999", x.ends(1, 11, 2, 99989), -2);
        due("none small", books(of(1), of(100), of(95)).ends(1, 2, 1, 4), -2);
        due("none small", books(of(1), of(100), of(95)).ends(1, 2, 1, 5), 10);
    }

    private static CoinBoats looks(int... manyAndWrong) {
        CoinBoats x = Check.told("kind k 1 1 1;" + ISLANDS);
        for (int i = 0; i < manyAndWrong.length; i += 2) {
            x.looked(1 + i / 2, manyAndWrong[i], manyAndWrong[i + 1]);
        }
        return x;
    }

    private static void ways(CoinBoats x, int place, long more, long all) {
        int n = x.count(6);
        due("ways of ISLAND " + place, x.whoseWays(place, n, true), more);
        due("all ways of ISLAND " + place, x.whoseWays(place, n, false), all);
    }

    private static void waysToTake() {
        // m 10, f 3.
        CoinBoats x = looks(4, 1, 3, 2, 3, 0);
        ways(x, 1, 210 - 35, 210);
        ways(x, 2, 3 * 7 + 1, 120);
        ways(x, 3, 120, 120);
        // One alone: one way, all false or none.
        ways(looks(60, 60), 1, 1, 1);
        ways(looks(60, 0), 1, 1, 1);
        ways(looks(1, 1), 1, 1, 1);
        ways(looks(1, 0), 1, 1, 1);
        // a is all of u, all of f.
        ways(looks(3, 3, 7, 0), 1, 1, 120);
        ways(looks(3, 3, 7, 0), 2, 120, 120);
        ways(looks(3, 3, 7, 1), 1, 4, 120);
        // The most that there are: 30 of 60.
        ways(looks(30, 30, 30, 0), 1, 1, 118264581564861424L);
        ways(looks(30, 30, 30, 0), 2, 118264581564861424L, 118264581564861424L);
        ways(looks(30, 15, 30, 15), 1, (118264581564861424L + 155117520L * 155117520L) / 2, 118264581564861424L);
        ways(looks(29, 0, 31, 0), 1, 114449595062769120L, 114449595062769120L);
        ways(looks(1, 1, 59, 0), 1, 1, 60);
        ways(looks(1, 1, 59, 0), 2, 60, 60);
        // Rows of one ISLAND are added: 3 of 6 are false, of 5 in 12.
        x = looks(4, 1, 3, 2, 3, 0);
        x.looked(1, 2, 2);
        ways(x, 1, 10 * 35 + 5 * 21 + 7, 924);
    }

    private static void waysOfMoreOrAll() {
        CoinBoats x = looks(1, 0, 1, 1);
        ways(x, 1, 2, 2);
        ways(x, 2, 1, 2);
        // All ways do not ask for the false ones, those of more do: f 0 .. 5 of 10, all of one ISLAND's 5.
        long[] more = {252, 126, 56, 21, 6, 1};
        for (int f = 0; f <= 5; f++) {
            ways(looks(5, f, 5, 0), 1, more[f], 252);
            ways(looks(5, f, 5, 0), 2, 252, 252);
        }
        ways(looks(59, 59, 1, 1), 1, 60, 60);
        ways(looks(59, 58, 1, 0), 1, 2, 60);
    }

    private static void whoseOfNobody() {
        CoinBoats x = looks(0, 0, 60, 60);
        due("KNOWN by none", x.whose(0), -2);
        due("0 looked at", x.whose(1), -2);
        due("m 60", x.whose(2), 2);
        x.looked(1, 0, 0);
        due("m 60, and 0", x.whose(3), 2);
        x.looked(1, 1, 0);
        due("m 61", x.whose(4), -2);
        x.book(1, 0, 9999, true);
        due("m 61 still", x.whose(5), -2);
        x.annul(1);
        due("m 1", x.whose(6), 1);
    }

    private static void leastPart() {
        due("1 of 2, of 1 and 9", looks(1, 1, 9, 1).whose(2), 1);
        due("1 of 2, of 9 and 1", looks(9, 1, 1, 1).whose(2), 2);
        due("u 0 of the first", looks(0, 0, 9, 0).whose(2), 2);
        due("u 0 of all but the last", looks(0, 0, 0, 0, 0, 0, 1, 0).whose(4), 4);
        due("u 0 is not the least", looks(0, 0, 5, 5, 5, 1).whose(3), 2);
        // One that has none false has all ways.
        due("all luck", looks(5, 0, 5, 1).whose(2), 2);
        due("all luck, and more luck", looks(5, 1, 5, 0).whose(2), 1);
        // 1, 1/2, 5/14; 3/4, 25/28, 11/14; 3/8, 1, 1/2; 25/28, 11/14, 3/4.
        due("5 of 14 and 1 of 2", looks(2, 0, 4, 3, 2, 2).whose(3), 3);
        due("3 of 4 and 11 of 14", looks(1, 1, 3, 2, 4, 3).whose(3), 1);
        due("3 of 8 and 1 of 2", looks(1, 1, 3, 0, 4, 2).whose(3), 1);
        due("11 of 14 and 3 of 4", looks(3, 2, 4, 3, 1, 1).whose(3), 3);
        // Ways beyond 53 bits.
        due("30 and 30, 16 and 15", looks(30, 16, 30, 15).whose(2), 1);
        due("30 and 30, 15 and 16", looks(30, 15, 30, 16).whose(2), 2);
        due("20 each", looks(20, 10, 20, 9, 20, 11).whose(3), 3);
        due("15 each", looks(15, 4, 15, 4, 15, 5, 15, 4).whose(4), 3);
        due("29 and 31, half of each and one", looks(29, 15, 31, 16).whose(2), 1);
    }

    private static void partsAlike() {
        due("alike", looks(5, 2, 5, 2).whose(2), 1);
        due("alike, u 0 ahead", looks(0, 0, 5, 2, 5, 2).whose(3), 2);
        due("none false", looks(5, 0, 3, 0).whose(2), 1);
        due("all false", looks(5, 5, 3, 3).whose(2), 1);
        due("30 each", looks(30, 15, 30, 15).whose(2), 1);
        due("15 each", looks(15, 4, 15, 4, 15, 4, 15, 4).whose(4), 1);
        due("the two last ones are alike", looks(5, 1, 5, 2, 5, 2).whose(3), 2);
        // All ways of the first, 1 of 3 of the second.
        due("1 of 3 and all", looks(2, 0, 1, 1).whose(2), 2);
    }

    private static void sixtyLookedAt() {
        due("nobody", looks().whose(0), -2);
        due("none was looked at", looks(0, 0, 0, 0).whose(2), -2);
        due("m 1", looks(1, 0).whose(1), 1);
        due("m 60", looks(30, 1, 30, 0).whose(2), 1);
        due("m 61", looks(30, 1, 31, 0).whose(2), -2);
        due("m 61, ways", looks(30, 1, 31, 0).whoseWays(1, 2, true), -2);
        due("m 61, all ways", looks(30, 1, 31, 0).whoseWays(2, 2, false), -2);
        due("m 30 as KNOWN by 1", looks(30, 1, 31, 0).whose(1), 1);
        due("m 240", looks(60, 1, 60, 1, 60, 1, 60, 1).whose(4), -2);
        CoinBoats x = looks(30, 1, 31, 0);
        x.annul(1);
        due("m 30 behind a VOID", x.whose(3), 1);
        due("m 61 as KNOWN by 2", x.whose(2), -2);
        x.annul(0);
        due("nobody behind two VOIDS", x.whose(4), -2);
        x = looks(15, 1, 15, 1, 15, 1, 15, 1);
        due("m 60 of four", x.whose(4), 1);
        x.looked(1, 1, 1);
        due("m 61 of four", x.whose(5), -2);
    }

    private static void noneAhead() {
        CoinBoats x = looks(30, 1, 31, 0);
        due("no such n, m above 60", x.whose(3), -1);
        due("no such n, m above 60", x.whoseWays(1, 3, true), -1);
        due("no such ISLAND, m above 60", x.whoseWays(5, 2, true), -1);
        due("no such ISLAND, m above 60", x.whoseWays(0, 2, true), -1);
        due("no such n, nobody rich", x.richest(3), -1);
        due("no such n, no ENDS", x.ends(1, 3, 2, 0), -1);
        x.book(1, 0, 9, false);
        due("no ENDS", x.ends(1, 3, 2, 0), -2);
        due("no such b, no ENDS", x.ends(1, 3, 0, 0), -1);
        due("no such b, no ENDS", x.ends(1, 3, 502, 0), -1);
        due("no such o, no ENDS", x.ends(1, 3, 2, -1), -1);
        due("no such KIND, not paid", x.pay(0, 9, 11), -1);
        due("not paid", x.pay(0, 9, 10), -2);
        due("no such KIND, no CHANGE", x.change(0, 9, 0, 11), -1);
        due("no CHANGE", x.change(0, 9, 0, 10), -2);
        due("no such month, no BOAT", x.boat(1, 12), -1);
        due("no BOAT", x.boat(1, 11), -2);
        due("no such SENDING", x.done(0), -1);
        due("no such n, never trickled", x.trickled(10000, 0, 0, 0), -1);
        due("no such x, never trickled", x.trickled(9, 0, 0, -1), -1);
        due("never trickled", x.trickled(9, 0, 0, 0), -2);
        x = Check.told("kind k 2 1 1;");
        due("no such s, none of WORTH 1", x.which(401, 0), -1);
        due("no such c, none of WORTH 1", x.whichSum(1, 100), -1);
        due("none of WORTH 1", x.which(400, 99), -2);
    }

    private static CoinBoats kept() {
        CoinBoats x = Check.told(TWO);
        x.book(1, 0, 7, true);
        x.looked(1, 5, 2);
        return x;
    }

    private static void noSuchBook() {
        CoinBoats x = kept();
        String ahead = Picture.of(x);
        for (int far : FAR) {
            due("book(" + far + ", 0, 1, true)", x.book(far, 0, 1, true), -1);
            due("book(1, " + far + ", 1, false)", x.book(1, far, 1, false), -1);
            due("book(1, 0, " + far + ", true)", x.book(1, 0, far, true), -1);
        }
        due("the house", x.book(0, 0, 1, true), -1);
        due("PLACE 3", x.book(3, 0, 1, true), -1);
        due("KIND 2", x.book(1, 2, 1, true), -1);
        due("n 10000", x.book(1, 0, 10000, false), -1);
        CHECK.due("nothing happens", Picture.of(x), ahead);
        due("the next row", x.book(2, 1, 9999, true), 2);
    }

    private static void noSuchLook() {
        CoinBoats x = kept();
        String ahead = Picture.of(x);
        for (int far : FAR) {
            due("looked(" + far + ", 1, 1)", x.looked(far, 1, 1), -1);
            due("looked(1, " + far + ", 0)", x.looked(1, far, 0), -1);
            due("looked(1, 5, " + far + ")", x.looked(1, 5, far), -1);
        }
        due("the house", x.looked(0, 1, 1), -1);
        due("PLACE 3", x.looked(3, 1, 1), -1);
        due("61", x.looked(1, 61, 60), -1);
        CHECK.due("nothing happens", Picture.of(x), ahead);
        due("the next row", x.looked(2, 1, 1), 2);
        sixtyFirst(1);
    }

    private static void moreFalse() {
        CoinBoats x = kept();
        String ahead = Picture.of(x);
        due("1 of 0", x.looked(1, 0, 1), -1);
        due("6 of 5", x.looked(1, 5, 6), -1);
        due("60 of 59", x.looked(1, 59, 60), -1);
        due("61 of 60", x.looked(1, 60, 61), -1);
        due("-1 of 5", x.looked(1, 5, -1), -1);
        CHECK.due("nothing happens", Picture.of(x), ahead);
        due("0 of 0", x.looked(1, 0, 0), 2);
        due("5 of 5", x.looked(1, 5, 5), 3);
        due("60 of 60", x.looked(1, 60, 60), 4);
    }

    private static void noSuchVoid() {
        CoinBoats x = Check.told(TWO);
        due("no row", x.annul(0), -1);
        x = kept();
        String ahead = Picture.of(x);
        for (int far : FAR) {
            due("annul(" + far + ")", x.annul(far), -1);
        }
        due("annul(2) of two", x.annul(2), -1);
        due("annul(60)", x.annul(60), -1);
        CHECK.due("nothing happens", Picture.of(x), ahead);
        due("annul(1)", x.annul(1), 2);
        ahead = Picture.of(x);
        due("a VOID", x.annul(2), -1);
        due("its own number", x.annul(3), -1);
        CHECK.due("nothing happens", Picture.of(x), ahead);
    }

    private static void noSuchBalance() {
        CoinBoats x = kept();
        for (int far : FAR) {
            due("balance(" + far + ", 0, 2)", x.balance(far, 0, 2), -1000000);
            due("balance(1, " + far + ", 2)", x.balance(1, far, 2), -1000000);
            due("balance(1, 0, " + far + ")", x.balance(1, 0, far), -1000000);
        }
        due("the house", x.balance(0, 0, 2), -1000000);
        due("PLACE 3", x.balance(3, 0, 2), -1000000);
        due("KIND 2", x.balance(1, 2, 2), -1000000);
        due("n 3", x.balance(1, 0, 3), -1000000);
        due("n 2", x.balance(1, 0, 2), 7);
        due("n 0", x.balance(1, 0, 0), 0);
    }

    private static void richest() {
        CoinBoats x = Check.told(TWO + "island m 1 1;");
        x.book(2, 0, 1, false);
        due("1", x.richest(1), 2);
        x.book(1, 0, 4, false);
        due("4 and 1", x.richest(2), 1);
        x.book(3, 1, 1, false);
        due("4, 1 and 5 by WORTH", x.richest(3), 3);
        x.book(1, 0, 1, false);
        due("5, 1 and 5: the first of alike ones", x.richest(4), 1);
        x.book(1, 0, 1, true);
        due("4, 1 and 5", x.richest(5), 3);
        x.book(3, 0, 6, true);
        due("4, 1 and -1: less of one KIND", x.richest(6), 1);
        x.annul(1);
        due("0, 1 and -1", x.richest(7), 2);
        due("4, 1 and -1 as KNOWN ahead", x.richest(6), 1);
        // WORTH 500, 59 rows: far more than by pieces.
        x = Check.told("kind k 500 1 1;kind l 1 1 1;island i 1 1;island j 1 1;");
        for (int row = 0; row < 30; row++) {
            x.book(2, 0, 9999, false);
        }
        for (int row = 30; row < 60; row++) {
            x.book(1, 1, 9999, false);
        }
        due("149985000 and 299970", x.richest(60), 2);
        due("149985000", x.richest(30), 2);
    }

    private static void nobodyRich() {
        CoinBoats x = Check.told(TWO);
        due("nothing is KNOWN", x.richest(0), -2);
        x.book(1, 0, 0, false);
        due("none", x.richest(1), -2);
        x.book(1, 0, 5, true);
        due("less", x.richest(2), -2);
        x.book(1, 1, 1, false);
        due("as much", x.richest(3), -2);
        x.book(1, 0, 1, false);
        due("one more", x.richest(4), 1);
        x.annul(3);
        due("as much again", x.richest(5), -2);
        x.looked(1, 9, 0);
        due("looked at", x.richest(6), -2);
        due("no ISLAND", new CoinBoats().richest(0), -2);
    }

    private static void noSuchRichest() {
        CoinBoats x = kept();
        for (int far : FAR) {
            due("richest(" + far + ")", x.richest(far), -1);
        }
        due("richest(3)", x.richest(3), -1);
        due("richest(2)", x.richest(2), -2);
        due("richest(1) of none", new CoinBoats().richest(1), -1);
    }

    private static void noSuchJars() {
        CoinBoats x = books(of(1, 500), of(100, 100), of(63, 90));
        int[] want = {3, 1, 0};
        for (int what = 0; what < 3; what++) {
            due("jars(1, 4, 500, " + what + ")", x.jars(1, 4, 500, what), want[what]);
            for (int far : FAR) {
                due("jars(" + far + ", 4, 2, ..)", x.jars(far, 4, 2, what), -1);
                due("jars(1, " + far + ", 2, ..)", x.jars(1, far, 2, what), -1);
                due("jars(1, 4, " + far + ", ..)", x.jars(1, 4, far, what), -1);
            }
            due("the house", x.jars(0, 4, 2, what), -1);
            due("PLACE 5", x.jars(5, 4, 2, what), -1);
            due("n 5", x.jars(1, 5, 2, what), -1);
            due("b 0", x.jars(1, 4, 0, what), -1);
            due("b 502", x.jars(1, 4, 502, what), -1);
        }
        due("b 1", x.jars(1, 4, 1, 0), 0);
        // With b 501 both are small: 90 less 3 of ten is 63, and 90 less 3 of ten is OFF by 27.
        due("b 501", x.jars(1, 4, 501, 2), 27);
        due("n 0", x.jars(1, 0, 2, 2), 0);
        due("what 3", x.jars(1, 4, 2, 3), -1);
        for (int far : FAR) {
            due("what " + far, x.jars(1, 4, 2, far), -1);
        }
    }

    private static void noSuchEnds() {
        CoinBoats x = books(of(1, 500), of(100, 100), of(63, 90));
        due("ends(1, 4, 500, 0)", x.ends(1, 4, 500, 0), 303);
        for (int far : FAR) {
            due("ends(" + far + ", 4, 2, 0)", x.ends(far, 4, 2, 0), -1);
            due("ends(1, " + far + ", 2, 0)", x.ends(1, far, 2, 0), -1);
            due("ends(1, 4, " + far + ", 0)", x.ends(1, 4, far, 0), -1);
            due("ends(1, 4, 2, " + far + ")", x.ends(1, 4, 2, far), -1);
        }
        due("the house", x.ends(0, 4, 2, 0), -1);
        due("PLACE 5", x.ends(5, 4, 2, 0), -1);
        due("n 5", x.ends(1, 5, 2, 0), -1);
        due("b 0", x.ends(1, 4, 0, 0), -1);
        due("b 502", x.ends(1, 4, 502, 0), -1);
        due("o 100000", x.ends(1, 4, 2, 100000), -1);
        due("o 99999", x.ends(1, 4, 2, 99999), 10);
        due("b 1", x.ends(1, 4, 1, 99999), 10);
        due("b 501", x.ends(1, 4, 501, 99999), 10);
        due("n 0", x.ends(1, 0, 2, 0), 10);
    }

    private static void noSuchWhose() {
        CoinBoats x = kept();
        for (int far : FAR) {
            due("whose(" + far + ")", x.whose(far), -1);
        }
        due("whose(3)", x.whose(3), -1);
        due("whose(2)", x.whose(2), 1);
        due("whose(1)", x.whose(1), -2);
        due("whose(1) of none", new CoinBoats().whose(1), -1);
    }

    private static void noneTaken() {
        CoinBoats x = looks(5, 1, 0, 0);
        ways(x, 1, 1, 1);
        ways(x, 2, -2, -2);
        ways(x, 3, -2, -2);
        due("nobody", x.whoseWays(1, 0, true), -2);
        due("nobody", x.whoseWays(1, 0, false), -2);
        x.annul(0);
        ways(x, 1, -2, -2);
        ways(looks(30, 1, 31, 0), 1, -2, -2);
        ways(looks(30, 1, 31, 0), 3, -2, -2);
        ways(looks(30, 1, 30, 0), 3, -2, -2);
    }

    private static void noSuchWays() {
        CoinBoats x = looks(5, 1, 4, 0);
        for (int far : FAR) {
            due("whoseWays(" + far + ", 2, true)", x.whoseWays(far, 2, true), -1);
            due("whoseWays(1, " + far + ", false)", x.whoseWays(1, far, false), -1);
        }
        due("the house", x.whoseWays(0, 2, true), -1);
        due("PLACE 5", x.whoseWays(5, 2, true), -1);
        due("n 3", x.whoseWays(1, 3, true), -1);
        due("n 2", x.whoseWays(1, 2, false), 126);
    }
}
