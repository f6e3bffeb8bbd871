/** Boundary cases of paying, change and WHICH KINDS: promises 21 to 24, and term III. */
public final class BoundaryCoinsTest {
    private static final Check CHECK = new Check();
    private static final int[] FAR = {-1, -2, -1000000, Integer.MIN_VALUE, Integer.MAX_VALUE, 99};

    public static void main(String[] args) {
        Sentences s = new Sentences(CHECK);
        sentences(s);
        s.run();
    }

    static void sentences(Sentences s) {
        s.hold("Term III", "A SUM (1 .. 2000) is PAID at a PLACE with pieces there:", BoundaryCoinsTest::sums);
        s.hold("Term III", "with the fewest; of these with the most of KIND 0, then of KIND 1, .. .", BoundaryCoinsTest::paidAlike);
        s.hold("Term III", "CHANGE: who pays has h pieces of each KIND (0 .. 9), the PLACE what is there;", BoundaryCoinsTest::purse);
        s.hold("Term III", "something is given, something comes back, so that it is the SUM in all: with the fewest pieces both ways;",
            BoundaryCoinsTest::bothWays);
        s.hold("Term III", "what is given is 4000 at most;", BoundaryCoinsTest::mostGiven);
        s.hold("Term III", "of alike ones the least that is given,", BoundaryCoinsTest::leastGiven);
        s.hold("Term III", "and each side with the most of KIND 0, then 1, .. .", BoundaryCoinsTest::changeAlike);
        s.hold("Term III", "WHICH KINDS: of all sets of the KINDS that has one of WORTH 1:", BoundaryCoinsTest::setsWithOne);
        s.hold("Term III", "with it each SUM 1 .. s (s 1 .. 400) is paid with the fewest pieces of endless tills;",
            BoundaryCoinsTest::endlessTills);
        s.hold("Term III", "the sum of these, and c (0 .. 99) for each KIND of the set: the set with the least;",
            BoundaryCoinsTest::forEachKind);
        s.hold("Term III", "of alike ones the least (bits).", BoundaryCoinsTest::setsAlike);
        promises(s);
    }

    private static void promises(Sentences s) {
        s.hold("Promise 21", "A SUM PAID at a PLACE: what 0 how many pieces, 10 and a KIND: how many of it.", BoundaryCoinsTest::paid);
        s.hold("Promise 21", "-2: it can't be paid;", BoundaryCoinsTest::notPaid);
        s.hold("Promise 21", "NONE: no such ones.", BoundaryCoinsTest::noSuchPay);
        s.hold("Promise 22", "CHANGE: what 0 how many pieces both ways, 10 and a KIND: how many are given, 20 likewise: come back.",
            BoundaryCoinsTest::changed);
        s.hold("Promise 22", "-2: it can't be;", BoundaryCoinsTest::notChanged);
        s.hold("Promise 22", "NONE: no such ones.", BoundaryCoinsTest::noSuchChange);
        s.hold("Promise 23", "WHICH KINDS: the set; -2: none has WORTH 1;", BoundaryCoinsTest::setOfAll);
        s.hold("Promise 23", "NONE: no such s, c.", BoundaryCoinsTest::noSuchWhich);
        s.hold("Promise 24", "Its sum (pieces of all SUMS, and c for each KIND);", BoundaryCoinsTest::sumOfAll);
        s.hold("Promise 24", "-2, NONE likewise.", BoundaryCoinsTest::noSuchSum);
    }

    private static void due(String call, long got, long want) {
        CHECK.due(call, got, want);
    }

    /** KINDS of these WORTHS, and one ISLAND. */
    private static CoinBoats worths(int... worths) {
        StringBuilder text = new StringBuilder();
        for (int i = 0; i < worths.length; i++) {
            text.append("kind ").append((char) ('a' + i)).append(' ').append(worths[i]).append(" 1 1;");
        }
        return Check.told(text + "island i 1 1;");
    }

    /** So many pieces of each KIND in the house. */
    private static CoinBoats with(CoinBoats x, int... pieces) {
        for (int kind = 0; kind < pieces.length; kind++) {
            x.lay(0, kind, kind % 4, pieces[kind]);
        }
        return x;
    }

    /** A SUM PAID in the house: how many of each KIND. */
    private static void pays(CoinBoats x, int sum, int... want) {
        int pieces = 0;
        for (int kind = 0; kind < want.length; kind++) {
            due("pay(0, " + sum + ", " + (10 + kind) + ")", x.pay(0, sum, 10 + kind), want[kind]);
            pieces += want[kind];
        }
        due("pay(0, " + sum + ", 0)", x.pay(0, sum, 0), pieces);
    }

    /** CHANGE in the house: of each KIND how many are given, less how many come back. */
    private static void changes(CoinBoats x, int sum, int h, int... want) {
        int pieces = 0;
        String call = "change(0, " + sum + ", " + h + ", ";
        for (int kind = 0; kind < want.length; kind++) {
            due(call + (10 + kind) + ")", x.change(0, sum, h, 10 + kind), Math.max(0, want[kind]));
            due(call + (20 + kind) + ")", x.change(0, sum, h, 20 + kind), Math.max(0, -want[kind]));
            pieces += Math.abs(want[kind]);
        }
        due(call + "0)", x.change(0, sum, h, 0), pieces);
    }

    private static void sums() {
        CoinBoats x = with(worths(1, 500), 9999, 9999);
        pays(x, 1, 1, 0);
        pays(x, 499, 499, 0);
        pays(x, 500, 0, 1);
        pays(x, 1999, 499, 3);
        pays(x, 2000, 0, 4);
        due("pay(0, 0, 0)", x.pay(0, 0, 0), -1);
        due("pay(0, 2001, 0)", x.pay(0, 2001, 0), -1);
        due("change(0, 0, 9, 0)", x.change(0, 0, 9, 0), -1);
        due("change(0, 2001, 9, 0)", x.change(0, 2001, 9, 0), -1);
        changes(x, 2000, 9, 0, 4);
        changes(x, 1, 9, 1, 0);
        // At an ISLAND with what is there.
        due("pay(1, 1, 0)", x.pay(1, 1, 0), -2);
        x.lay(1, 0, 3, 1);
        due("pay(1, 1, 0)", x.pay(1, 1, 0), 1);
        due("pay(1, 2, 0)", x.pay(1, 2, 0), -2);
        // All WORN together.
        x = worths(3);
        for (int worn = 0; worn < 4; worn++) {
            x.lay(0, 0, worn, 1);
        }
        pays(x, 12, 4);
        due("pay(0, 15, 0)", x.pay(0, 15, 0), -2);
        due("nothing is taken", x.has(0, 0, -1), 4);
    }

    private static void paidAlike() {
        // Fewer pieces are ahead of more of KIND 0.
        pays(with(worths(1, 5), 9, 9), 5, 0, 1);
        pays(with(worths(1, 4, 3), 9, 9, 9), 6, 0, 0, 2);
        // 10 of two: 5 + 5, 7 + 3, 6 + 4.
        pays(with(worths(5, 7, 3, 6, 4), 9, 9, 9, 9, 9), 10, 2, 0, 0, 0, 0);
        pays(with(worths(5, 7, 3, 6, 4), 1, 9, 9, 9, 9), 10, 0, 1, 1, 0, 0);
        pays(with(worths(5, 7, 3, 6, 4), 1, 9, 0, 9, 9), 10, 0, 0, 0, 1, 1);
        pays(with(worths(4, 3, 7, 6, 5), 9, 9, 9, 9, 9), 10, 1, 0, 0, 1, 0);
        pays(with(worths(4, 3, 7, 6, 5), 9, 9, 9, 0, 9), 10, 0, 1, 1, 0, 0);
        // Alike in KIND 0 too: then KIND 1.
        pays(with(worths(9, 4, 5, 6, 3), 9, 9, 9, 9, 9), 18, 2, 0, 0, 0, 0);
        pays(with(worths(9, 4, 5, 6, 3), 1, 9, 9, 9, 9), 18, 1, 1, 1, 0, 0);
        pays(with(worths(9, 4, 5, 6, 3), 1, 0, 9, 9, 9), 18, 1, 0, 0, 1, 1);
        // Two KINDS of one WORTH: the first of them.
        pays(with(worths(7, 7), 9, 9), 21, 3, 0);
        pays(with(worths(7, 7), 2, 9), 21, 2, 1);
        // More than enough of one KIND, few of another.
        pays(with(worths(1, 500), 9999, 3), 2000, 500, 3);
        pays(with(worths(500, 1), 3, 9999), 2000, 3, 500);
        pays(with(worths(1, 500, 2), 9999, 3, 100), 2000, 300, 3, 100);
        pays(with(worths(500, 2, 1), 3, 100, 9999), 1999, 3, 100, 299);
        // With the fewest, not with the greatest ones.
        pays(with(worths(1, 15, 20), 9, 2, 1), 30, 0, 2, 0);
        pays(with(worths(1, 15, 20), 10, 1, 1), 30, 10, 0, 1);
    }

    private static void purse() {
        // h of each KIND, no more; the house has one of KIND 1.
        CoinBoats x = with(worths(1, 10), 0, 1);
        for (int h = 1; h <= 9; h++) {
            changes(x, h, h, h, 0);
            due("one more than h", x.change(0, h < 9 ? h + 1 : 100, h, 0), -2);
            changes(x, 11 * h, h, h, h);
            due("one more than all", x.change(0, 11 * h + 1, h, 0), -2);
        }
        due("h 0", x.change(0, 1, 0, 0), -2);
        due("h 0", x.change(0, 10, 0, 0), -2);
        due("h 10", x.change(0, 1, 10, 0), -1);
        due("h -1", x.change(0, 1, -1, 0), -1);
        // Two KINDS of one WORTH: h of each.
        changes(with(worths(1, 1), 0, 0), 18, 9, 9, 9);
        // What comes back is of the PLACE alone.
        x = with(worths(1, 10), 1, 0);
        changes(x, 9, 9, 9 - 10, 1);
        due("ISLAND 1 has none", x.change(1, 9, 9, 0), 9);
        due("of it 9 are given", x.change(1, 9, 9, 10), 9);
        due("of KIND 1", x.change(1, 9, 9, 11), 0);
        x.lay(1, 0, 2, 1);
        due("ISLAND 1 has one", x.change(1, 9, 9, 0), 2);
        due("nothing is given or taken", x.has(1, 0, -1), 1);
    }

    private static void bothWays() {
        CoinBoats x = with(worths(1, 10, 50), 4, 4, 4);
        // 9 is 10 - 1; 40 is 50 - 10; 49 is 50 - 1; 39 is 50 - 10 - 1; 25 is 10 + 10 + 5, not 50 - 20 - 5.
        changes(x, 9, 9, -1, 1, 0);
        changes(x, 40, 9, 0, -1, 1);
        changes(x, 49, 9, -1, 0, 1);
        changes(x, 39, 9, -1, -1, 1);
        changes(x, 25, 9, 5, 2, 0);
        // Nothing comes back, something has to be given.
        changes(x, 50, 9, 0, 0, 1);
        changes(x, 5, 9, 5, 0, 0);
        // 6 with one of each: 10 - 4.
        changes(x, 6, 1, -4, 1, 0);
        due("5 with one of each", x.change(0, 5, 1, 0), -2);
    }

    private static void mostGiven() {
        // 8 * 500 - 8 * 499 is 8: 4000 is given.
        CoinBoats x = with(worths(500, 499), 0, 20);
        changes(x, 8, 8, 8, -8);
        due("9 would take 4500", x.change(0, 9, 9, 0), -2);
        // 1 is 8 * 500 - 93 * 43.
        changes(with(worths(500, 43), 0, 93), 1, 9, 8, -93);
        due("one piece fewer", with(worths(500, 43), 0, 92).change(0, 1, 9, 0), -2);
        // 151 is 8 * 490 + 3 * 27 - 14 * 275: 4001 would be given.
        due("4001", with(worths(490, 275, 27), 0, 99, 0).change(0, 151, 8, 0), -2);
        // All that who pays has may be above 4000.
        changes(with(worths(500, 400, 1), 0, 0, 0), 2000, 9, 4, 0, 0);
        changes(with(worths(500, 100), 9, 9), 2000, 9, 4, 0);
    }

    private static void leastGiven() {
        // 8 is 4 + 4 or 9 - 1: both of two.
        changes(with(worths(1, 9, 4), 9, 9, 9), 8, 2, 0, 0, 2);
        changes(with(worths(1, 9, 4), 9, 9, 9), 8, 1, -1, 1, 0);
        // 5 is 10 - 5, 20 - 15, 8 - 3: the least of them.
        changes(with(worths(20, 15, 10, 5, 8, 3), 0, 1, 0, 0, 0, 1), 5, 9, 0, 0, 0, 1, 0, 0);
        changes(with(worths(20, 15, 10, 6, 9, 4), 0, 1, 0, 0, 0, 1), 5, 9, 0, 0, 0, 0, 1, -1);
        changes(with(worths(20, 15, 10, 6, 9, 4), 0, 1, 0, 0, 0, 0), 5, 9, 1, -1, 0, 0, 0, 0);
        // The least by its WORTH, not by its pieces: 12 is 6 + 6 + 6 - 6, never; 13 is 5 + 8, or 20 - 7.
        changes(with(worths(20, 7, 5, 8), 0, 9, 0, 0), 13, 1, 0, 0, 1, 1);
    }

    private static void changeAlike() {
        // Given 11 of two: 8 + 3, 5 + 6, 7 + 4.
        changes(with(worths(8, 5, 7, 4, 6, 3), 0, 0, 0, 0, 0, 0), 11, 1, 1, 0, 0, 0, 0, 1);
        changes(with(worths(3, 4, 5, 6, 7, 8), 0, 0, 0, 0, 0, 0), 11, 1, 1, 0, 0, 0, 0, 1);
        changes(with(worths(9, 4, 5, 6, 7, 99), 0, 0, 0, 0, 0, 0), 11, 1, 0, 1, 0, 0, 1, 0);
        changes(with(worths(9, 99, 5, 6, 7, 4), 0, 0, 0, 0, 0, 0), 11, 1, 0, 0, 1, 1, 0, 0);
        // What comes back, 11 of two, of 100.
        changes(with(worths(3, 4, 7, 8, 100), 9, 9, 9, 9, 0), 89, 1, -1, 0, 0, -1, 1);
        changes(with(worths(3, 4, 7, 8, 100), 0, 9, 9, 9, 0), 89, 1, 0, -1, -1, 0, 1);
        // 15 of three: 5 + 5 + 5, 5 + 4 + 6.
        changes(with(worths(5, 4, 6), 0, 0, 0), 15, 9, 3, 0, 0);
        changes(with(worths(4, 5, 6), 0, 0, 0), 15, 9, 1, 1, 1);
        changes(with(worths(5, 4, 6, 100), 9, 9, 9, 0), 85, 1, -3, 0, 0, 1);
        // Two KINDS of one WORTH.
        changes(with(worths(7, 7), 0, 0), 7, 9, 1, 0);
        changes(with(worths(50, 10, 10), 0, 9, 9), 40, 1, 1, -1, 0);
    }

    private static void setsWithOne() {
        due("no KIND", new CoinBoats().which(1, 0), -2);
        due("no KIND", new CoinBoats().whichSum(1, 0), -2);
        due("WORTH 2", worths(2).which(1, 0), -2);
        due("WORTH 2 to 7", worths(2, 3, 4, 5, 6, 7).which(400, 99), -2);
        due("WORTH 2 to 7", worths(2, 3, 4, 5, 6, 7).whichSum(400, 99), -2);
        due("WORTH 1", worths(1).which(1, 0), 1);
        due("the last one", worths(2, 3, 4, 5, 6, 1).which(1, 0), 32);
        due("the last one", worths(2, 3, 4, 5, 6, 1).whichSum(1, 7), 8);
        due("a set without one is none", worths(7, 1).which(1, 0), 2);
        due("all", worths(500, 200, 100, 10, 2, 1).which(400, 0), 62);
    }

    private static void endlessTills() {
        // Nothing is in the tills.
        CoinBoats x = worths(1, 3, 4);
        due("1 of 1", x.whichSum(1, 0), 1);
        // 1 2 1 1 2 2: 6 is 3 + 3.
        due("6 of 1, 3, 4", x.which(6, 0), 7);
        due("6 of 1, 3, 4", x.whichSum(6, 0), 9);
        x = worths(1);
        due("s 400", x.whichSum(400, 0), 80200);
        due("s 1", x.whichSum(1, 0), 1);
        // 399 of 1 and 1 of 400, or 1 and 400.
        x = worths(1, 400);
        due("s 399", x.whichSum(399, 0), 79800);
        due("s 399", x.which(399, 0), 1);
        due("s 400", x.whichSum(400, 0), 79801);
        due("s 400", x.which(400, 0), 3);
        due("WORTH 500 pays none", worths(1, 500).which(400, 0), 1);
        due("s 0", x.which(0, 0), -1);
        due("s 401", x.which(401, 0), -1);
    }

    private static void forEachKind() {
        CoinBoats x = worths(1, 3);
        // With 1: 1 + 2 + 3, and c; with 1, 3: 1 + 2 + 1, and twice c.
        int[] sums = {4, 6, 8, 9};
        int[] sets = {3, 3, 1, 1};
        for (int c = 0; c < 4; c++) {
            due("which(3, " + c + ")", x.which(3, c), sets[c]);
            due("whichSum(3, " + c + ")", x.whichSum(3, c), sums[c]);
        }
        due("c 99", x.which(3, 99), 1);
        due("c 99", x.whichSum(3, 99), 105);
        due("c 99 of 80200", x.which(400, 99), 3);
        // With 1, 3: 1 for each of 133 threes, and 1, 2, 0 of 400.
        int pieces = 0;
        for (int sum = 1; sum <= 400; sum++) {
            pieces += sum / 3 + sum % 3;
        }
        due("c 99 for two", x.whichSum(400, 99), pieces + 198);
        due("c 0", x.whichSum(400, 0), pieces);
        due("c 100", x.which(3, 100), -1);
        due("c -1", x.which(3, -1), -1);
    }

    private static void setsAlike() {
        // With 1: 6 and c 2 are 8; with 1, 3: 4 and 4 are 8.
        due("alike, the least", worths(1, 3).which(3, 2), 1);
        due("alike, the least", worths(3, 1).which(3, 2), 2);
        due("alike, the least", worths(3, 1).whichSum(3, 2), 8);
        // A KIND that pays nothing costs nothing with c 0.
        due("c 0", worths(9, 1).which(3, 0), 2);
        due("c 0", worths(1, 9, 9, 9, 9, 9).which(3, 0), 1);
        due("two of WORTH 1", worths(1, 1).which(9, 0), 1);
        due("two of WORTH 1", worths(5, 1, 1).which(9, 0), 3);
        due("two of WORTH 5", worths(5, 1, 5).which(9, 0), 3);
        // 2: 1 + 1 + 2 of 1 .. 3; 3: 1 + 2 + 1.
        due("1, 2 or 1, 3", worths(1, 2, 3).which(3, 1), 3);
        due("1, 3 or 1, 2", worths(1, 3, 2).which(3, 1), 3);
        due("3, 1 or 2, 1", worths(3, 2, 1).which(3, 1), 5);
    }

    private static void setOfAll() {
        for (int kind = 0; kind < 6; kind++) {
            int[] worths = {500, 500, 500, 500, 500, 500};
            worths[kind] = 1;
            due("KIND " + kind + " has WORTH 1", worths(worths).which(400, 1), 1 << kind);
        }
        due("all six", worths(1, 2, 4, 8, 16, 32).which(400, 0), 63);
        due("none has WORTH 1", worths(500, 500, 500, 500, 500, 500).which(400, 1), -2);
        due("none has WORTH 1", worths(2).which(1, 0), -2);
    }

    private static void sumOfAll() {
        CoinBoats x = worths(1, 2, 4, 8, 16, 32);
        int pieces = 0;
        for (int sum = 1; sum <= 400; sum++) {
            pieces += sum / 32 + Integer.bitCount(sum % 32);
        }
        due("whichSum(400, 0)", x.whichSum(400, 0), pieces);
        due("whichSum(400, 1)", x.whichSum(400, 1), pieces + 6);
        due("whichSum(1, 99)", x.whichSum(1, 99), 100);
        due("the most", worths(1).whichSum(400, 99), 80299);
        due("the most, of two", worths(1, 500).whichSum(400, 99), 80299);
    }

    private static void paid() {
        CoinBoats x = with(worths(1, 2, 4, 8, 16, 32), 1, 1, 1, 1, 1, 1);
        pays(x, 63, 1, 1, 1, 1, 1, 1);
        pays(x, 1, 1, 0, 0, 0, 0, 0);
        pays(x, 32, 0, 0, 0, 0, 0, 1);
        pays(x, 42, 0, 1, 0, 1, 0, 1);
        due("pay(0, 64, 0)", x.pay(0, 64, 0), -2);
        // A whole till, and one of more than a SUM can take.
        pays(with(worths(3), 665), 1995, 665);
        due("one piece too few", with(worths(3), 665).pay(0, 1998, 0), -2);
        pays(with(worths(1), 1999), 1999, 1999);
        due("one piece too few", with(worths(1), 1999).pay(0, 2000, 0), -2);
        pays(with(worths(1), 2000), 2000, 2000);
        pays(with(worths(1), 9999), 2000, 2000);
    }

    private static void notPaid() {
        CoinBoats x = with(worths(4, 6), 9, 9);
        for (int what : new int[] {0, 10, 11}) {
            due("pay(0, 2, " + what + ")", x.pay(0, 2, what), -2);
            due("pay(0, 7, " + what + ")", x.pay(0, 7, what), -2);
            due("pay(0, 2000, " + what + ")", x.pay(0, 2000, what), -2);
        }
        pays(x, 90, 9, 9);
        due("more than all", x.pay(0, 92, 0), -2);
        due("an empty till", x.pay(1, 4, 0), -2);
        due("no KIND", new CoinBoats().pay(0, 1, 0), -2);
    }

    private static void noSuchPay() {
        CoinBoats x = with(worths(4, 6), 9, 9);
        for (int far : FAR) {
            due("pay(" + far + ", 4, 0)", x.pay(far, 4, 0), -1);
            due("pay(0, 4, " + far + ")", x.pay(0, 4, far), -1);
            due("pay(0, 3, " + far + "), NONE ahead of -2", x.pay(0, 3, far), -1);
        }
        for (int sum : new int[] {0, -1, 2001, Integer.MIN_VALUE, Integer.MAX_VALUE}) {
            due("pay(0, " + sum + ", 0)", x.pay(0, sum, 0), -1);
        }
        for (int what : new int[] {1, 9, 12, 15, 16, 20, 21}) {
            due("pay(0, 4, " + what + ")", x.pay(0, 4, what), -1);
            due("pay(0, 3, " + what + "), NONE ahead of -2", x.pay(0, 3, what), -1);
        }
        due("PLACE 2", x.pay(2, 4, 0), -1);
        due("no KIND", new CoinBoats().pay(0, 1, 10), -1);
        due("no ISLAND", new CoinBoats().pay(1, 1, 0), -1);
    }

    private static void changed() {
        CoinBoats x = with(worths(1, 2, 4, 8, 16, 32), 1, 1, 1, 1, 1, 1);
        changes(x, 63, 1, 1, 1, 1, 1, 1, 1);
        changes(x, 63, 2, -1, 0, 0, 0, 0, 2);
        changes(x, 62, 2, 0, -1, 0, 0, 0, 2);
        changes(x, 21, 1, 1, 0, 1, 0, 1, 0);
        due("64 with one of each", x.change(0, 64, 1, 0), -2);
    }

    private static void notChanged() {
        CoinBoats x = with(worths(4, 6), 9, 9);
        for (int what : new int[] {0, 10, 11, 20, 21}) {
            due("change(0, 3, 9, " + what + ")", x.change(0, 3, 9, what), -2);
            due("change(0, 91, 9, " + what + ")", x.change(0, 91, 9, what), -2);
            due("change(0, 2000, 9, " + what + ")", x.change(0, 2000, 9, what), -2);
            due("change(0, 4, 0, " + what + ")", x.change(0, 4, 0, what), -2);
        }
        changes(x, 90, 9, 9, 9);
        changes(x, 2, 1, -1, 1);
        due("no KIND", new CoinBoats().change(0, 1, 9, 0), -2);
    }

    private static void noSuchChange() {
        CoinBoats x = with(worths(4, 6), 9, 9);
        for (int far : FAR) {
            due("change(" + far + ", 4, 9, 0)", x.change(far, 4, 9, 0), -1);
            due("change(0, 4, " + far + ", 0)", x.change(0, 4, far, 0), -1);
            due("change(0, 4, 9, " + far + ")", x.change(0, 4, 9, far), -1);
        }
        for (int sum : new int[] {0, -1, 2001, 4000, Integer.MIN_VALUE, Integer.MAX_VALUE}) {
            due("change(0, " + sum + ", 9, 0)", x.change(0, sum, 9, 0), -1);
        }
        for (int what : new int[] {1, 9, 12, 15, 16, 19, 22, 25, 26, 30}) {
            due("change(0, 4, 9, " + what + ")", x.change(0, 4, 9, what), -1);
            due("change(0, 3, 9, " + what + "), NONE ahead of -2", x.change(0, 3, 9, what), -1);
        }
        due("PLACE 2", x.change(2, 4, 9, 0), -1);
        due("h 10", x.change(0, 4, 10, 0), -1);
        due("h 10, NONE ahead of -2", x.change(0, 3, 10, 0), -1);
        due("no KIND", new CoinBoats().change(0, 1, 9, 10), -1);
        due("no KIND", new CoinBoats().change(0, 1, 9, 20), -1);
        due("no ISLAND", new CoinBoats().change(1, 1, 9, 0), -1);
    }

    private static void noSuchWhich() {
        for (CoinBoats x : new CoinBoats[] {worths(1, 3), worths(2, 3), new CoinBoats()}) {
            for (int s : new int[] {0, -1, 401, Integer.MIN_VALUE, Integer.MAX_VALUE}) {
                due("which(" + s + ", 0)", x.which(s, 0), -1);
            }
            for (int c : new int[] {-1, 100, Integer.MIN_VALUE, Integer.MAX_VALUE}) {
                due("which(1, " + c + ")", x.which(1, c), -1);
            }
        }
        due("which(400, 99)", worths(1, 3).which(400, 99), 3);
    }

    private static void noSuchSum() {
        for (CoinBoats x : new CoinBoats[] {worths(1, 3), worths(2, 3), new CoinBoats()}) {
            for (int s : new int[] {0, -1, 401, Integer.MIN_VALUE, Integer.MAX_VALUE}) {
                due("whichSum(" + s + ", 0)", x.whichSum(s, 0), -1);
            }
            for (int c : new int[] {-1, 100, Integer.MIN_VALUE, Integer.MAX_VALUE}) {
                due("whichSum(1, " + c + ")", x.whichSum(1, c), -1);
            }
        }
        due("none has WORTH 1", worths(2, 3).whichSum(1, 0), -2);
        due("none has WORTH 1", worths(2, 3).whichSum(400, 99), -2);
        due("no KIND", new CoinBoats().whichSum(1, 99), -2);
    }
}
