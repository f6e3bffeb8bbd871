/** The last KIND of six and the last ISLAND of four: that they are there, for each call that asks for such ones. */
public final class BoundaryLastTest {
    private static final Check CHECK = new Check();
    private static final String KINDS = "kind a 1 1 1;kind b 2 1 1;kind c 4 1 1;kind d 8 1 1;kind e 16 1 1;kind f 32 2 7;";
    private static final String ISLANDS = "island i 9 1;island j 9 1;island l 9 1;island m 20 3;";

    public static void main(String[] args) {
        Sentences s = new Sentences(CHECK);
        sentences(s);
        s.run();
    }

    static void sentences(Sentences s) {
        s.hold("Term I", "a 7th kind, a 5th island,", BoundaryLastTest::lastOfTheText);
        s.hold("Term II", "PIECES: of each PLACE, KIND and WORN 0 .. 3 (0 .. 999999).", BoundaryLastTest::piecesOfTheLast);
        s.hold("Term II", "SENDINGS of that TIME, by their numbers:", BoundaryLastTest::monthsOfTheLast);
        s.hold("Term III", "A SUM (1 .. 2000) is PAID at a PLACE with pieces there:", BoundaryLastTest::coinsOfTheLast);
        s.hold("Term IV", "LEAST COIN for an ISLAND and a KIND over k MONTHS (1 .. 12) from a month on,", BoundaryLastTest::stocksOfTheLast);
        s.hold("Term V", "BOOKS, 60 rows at most, numbered from 0 on;", BoundaryLastTest::booksOfTheLast);
    }

    private static void due(String call, long got, long want) {
        CHECK.due(call, got, want);
    }

    private static void lastOfTheText() {
        CoinBoats x = Check.told(KINDS + ISLANDS + "want m f=month+2;boat m 11 999 9;");
        due("kind(5, 0)", x.kind(5, 0), 32);
        due("kind(5, 1)", x.kind(5, 1), 2);
        due("kind(5, 2)", x.kind(5, 2), 7);
        due("kind(6, 0)", x.kind(6, 0), -1);
        due("island(4, 0)", x.island(4, 0), 20);
        due("island(4, 1)", x.island(4, 1), 3);
        due("island(5, 0)", x.island(5, 0), -1);
        due("boat(4, 11)", x.boat(4, 11), 0);
        due("boat(4, 10)", x.boat(4, 10), -2);
        due("boat(5, 11)", x.boat(5, 11), -1);
        due("want(4, 5, 11)", x.want(4, 5, 11), 13);
        due("want(5, 5, 11)", x.want(5, 5, 11), -1);
        due("want(4, 6, 11)", x.want(4, 6, 11), -1);
        due("want(4, 5, 12)", x.want(4, 5, 12), -1);
    }

    private static void piecesOfTheLast() {
        CoinBoats x = Check.told(KINDS + ISLANDS);
        for (int place = 0; place <= 4; place++) {
            for (int kind = 0; kind < 6; kind++) {
                for (int worn = 0; worn < 4; worn++) {
                    int n = 1000 * place + 100 * kind + worn;
                    due("lay", x.lay(place, kind, worn, n), n);
                }
            }
        }
        for (int place = 0; place <= 4; place++) {
            for (int kind = 0; kind < 6; kind++) {
                for (int worn = 0; worn < 4; worn++) {
                    due("has", x.has(place, kind, worn), 1000 * place + 100 * kind + worn);
                }
            }
        }
        due("has(4, 5, -1)", x.has(4, 5, -1), 18006);
        due("strike(5, 1)", x.strike(5, 1), 2007);
        due("burn(5, 3)", x.burn(5, 3), 503);
        due("spent(3)", x.spent(3), 7);
        due("PLACE 5", x.lay(5, 5, 3, 1), -1);
        due("KIND 6", x.lay(4, 6, 3, 1), -1);
        due("WORN 4", x.lay(4, 5, 4, 1), -1);
    }

    private static void monthsOfTheLast() {
        CoinBoats x = Check.told(KINDS + ISLANDS + "boat m 0 20 5;boat m 11 20 6;flow m house f=1;flow house m e=2;wear f=1;"
            + "lost m f=1;want m f=9;want m e=3;");
        x.strike(5, 40);
        x.strike(4, 40);
        due("send", x.send(0, 4, 5, 10, false), 0);
        due("send", x.send(11, 4, 5, 1, true), 1);
        due("send", x.send(239, 4, 5, 1, true), 2);
        due("a month", x.months(1, 1), 1 + 1);
        due("done(0)", x.done(0), 0);
        due("one back, one lost", x.has(4, 5, -1), 8);
        due("back in the house", x.has(0, 5, -1), 31);
        due("one is worn, and lost", x.has(4, 5, 1), 0);
        due("two came", x.has(4, 4, 0), 2);
        due("lacks(4, 5)", x.lacks(4, 5), 1);
        due("lacks(4, 4)", x.lacks(4, 4), 1);
        due("lacks(4, 6)", x.lacks(4, 6), -1);
        due("lacks(5, 5)", x.lacks(5, 5), -1);
        due("HARM 3", x.spent(1), 6);
        due("COST", x.spent(2), 5);
        due("all of the others is as it was", x.has(3, 5, -1) + x.has(3, 4, -1) + x.lacks(3, 5) + x.has(0, 0, -1), 0);
    }

    private static void coinsOfTheLast() {
        CoinBoats x = Check.told(KINDS + ISLANDS);
        for (int kind = 0; kind < 6; kind++) {
            x.lay(4, kind, kind % 4, 1);
        }
        due("pay(4, 63, 0)", x.pay(4, 63, 0), 6);
        due("pay(4, 40, 15)", x.pay(4, 40, 15), 1);
        due("pay(4, 40, 14)", x.pay(4, 40, 14), 0);
        due("pay(4, 40, 16)", x.pay(4, 40, 16), -1);
        due("pay(5, 40, 15)", x.pay(5, 40, 15), -1);
        // 64 and 96 are two of 32, and two of 16.
        due("change(4, 64, 2, 15)", x.change(4, 64, 2, 15), 2);
        due("change(4, 96, 2, 15)", x.change(4, 96, 2, 15), 2);
        due("change(4, 64, 2, 25)", x.change(4, 64, 2, 25), 0);
        due("change(4, 64, 2, 16)", x.change(4, 64, 2, 16), -1);
        due("change(4, 64, 2, 26)", x.change(4, 64, 2, 26), -1);
        x = Check.told("kind a 97 1 1;kind b 89 1 1;kind c 83 1 1;kind d 79 1 1;kind e 73 1 1;kind f 96 1 1;" + ISLANDS);
        x.lay(4, 5, 2, 1);
        due("97 - 96", x.change(4, 1, 1, 25), 1);
        due("97 - 96", x.change(4, 1, 1, 10), 1);
        x = Check.told("kind a 7 1 1;kind b 9 1 1;kind c 11 1 1;kind d 13 1 1;kind e 15 1 1;kind f 1 1 1;");
        due("which(1, 0)", x.which(1, 0), 32);
        due("whichSum(1, 5)", x.whichSum(1, 5), 6);
        due("burnAt(5, 0, 1)", x.burnAt(5, 0, 1), 4);
        due("burnAt(6, 0, 1)", x.burnAt(6, 0, 1), -1);
    }

    private static void stocksOfTheLast() {
        CoinBoats x = Check.told(KINDS + ISLANDS + "boat m 11 20 5;want m f=4;want i f=1;");
        // HARM 3: four are lacked; a BOAT with NEW 7 is not worth it.
        due("least", x.least(4, 5, 11, 1, 0, 0), 12);
        due("order", x.order(4, 5, 11, 1, 0, 0), 0);
        due("price", x.price(4, 5, 11, 1, 3, 0), 3);
        due("least of PLACE 5", x.least(5, 5, 11, 1, 0, 0), -1);
        due("order of KIND 6", x.order(4, 6, 11, 1, 0, 0), -1);
        x.lay(4, 5, 0, 5);
        due("pool of ISLAND 4", x.pool(5, 0, 8), 0);
        due("pool of all", x.pool(5, 0, 15), 0);
        due("pool of ISLAND 1", x.pool(5, 0, 1), 1);
        due("saved by 1 and 4", x.saved(5, 0, 9), 1);
        due("pool of set 16", x.pool(5, 0, 16), -1);
        due("holds", x.holds(5, 0, 0, 0, 0, 1), 0);
        due("holds", x.holds(5, 0, 0, 0, 0, 0), 9);
        due("KIND 6", x.holds(6, 0, 0, 0, 0, 1), -1);
    }

    private static void booksOfTheLast() {
        CoinBoats x = Check.told(KINDS + ISLANDS);
        due("book", x.book(4, 5, 100, true), 0);
        due("book", x.book(4, 5, 72, false), 1);
        due("PLACE 5", x.book(5, 5, 1, true), -1);
        due("KIND 6", x.book(4, 6, 1, true), -1);
        due("balance(4, 5, 2)", x.balance(4, 5, 2), 28);
        due("balance(3, 5, 2)", x.balance(3, 5, 2), 0);
        due("balance(4, 4, 2)", x.balance(4, 4, 2), 0);
        due("k", x.jars(4, 2, 33, 0), 1);
        due("l", x.jars(4, 2, 33, 1), 2);
        due("OFF, not small", x.jars(4, 2, 32, 2), 2);
        due("ends", x.ends(4, 2, 33, 0), 102);
        due("richest", x.richest(2), -2);
        x.book(4, 5, 29, false);
        due("richest", x.richest(3), 4);
        due("looked", x.looked(4, 5, 5), 3);
        due("PLACE 5", x.looked(5, 5, 5), -1);
        x.looked(1, 50, 0);
        due("whose", x.whose(5), 4);
        due("its ways", x.whoseWays(4, 5, true), 1);
        due("all ways", x.whoseWays(4, 5, false), 3478761);
        for (int row = 5; row < 60; row++) {
            x.book(4, 5, 9999, false);
        }
        due("a 61st row", x.annul(59), -1);
        due("60 rows", x.balance(4, 5, 60), 100 - 72 - 29 - 55 * 9999);
    }
}
