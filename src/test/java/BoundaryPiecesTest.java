/** Boundary cases of pieces: promises 10 to 13, and term II's PIECES. */
public final class BoundaryPiecesTest {
    private static final Check CHECK = new Check();
    private static final String TWO = "kind k 1 1 3;kind l 2 1 10;island i 1 1;island j 1 1;want i k=2;boat i 0 9 1;";
    private static final int[] FAR = {-2, -1000000, Integer.MIN_VALUE, Integer.MIN_VALUE + 1, Integer.MAX_VALUE, 99};
    private static final int MOST = 999999;

    public static void main(String[] args) {
        Sentences s = new Sentences(CHECK);
        sentences(s);
        s.run();
    }

    static void sentences(Sentences s) {
        s.hold("Term II", "PIECES: of each PLACE, KIND and WORN 0 .. 3 (0 .. 999999).", BoundaryPiecesTest::fullOfEach);
        s.hold("Promise 10", "n pieces (1 .. 9999) are struck, new, in the house: how many of the KIND it has.",
            BoundaryPiecesTest::struck);
        s.hold("Promise 10", "NONE, and nothing happens: no such ones,", BoundaryPiecesTest::noSuchStrike);
        s.hold("Promise 10", "more than 999999 would be there.", BoundaryPiecesTest::struckTooMany);
        s.hold("Promise 11", "All pieces of a KIND that are WORN so (0 .. 3) or more in the house are burnt: how many;",
            BoundaryPiecesTest::burnt);
        s.hold("Promise 11", "NONE: no such ones.", BoundaryPiecesTest::noSuchBurn);
        s.hold("Promise 12", "n pieces (0 .. 9999) are laid at a PLACE, WORN so: how many are so there.", BoundaryPiecesTest::laid);
        s.hold("Promise 12", "NONE, and nothing happens: no such ones,", BoundaryPiecesTest::noSuchLay);
        s.hold("Promise 12", "more than 999999 would be there.", BoundaryPiecesTest::laidTooMany);
        s.hold("Promise 13", "Pieces of a PLACE and KIND that are WORN so (NONE: all);", BoundaryPiecesTest::has);
        s.hold("Promise 13", "NONE: no such ones.", BoundaryPiecesTest::hasNoSuch);
    }

    private static void due(String call, long got, long want) {
        CHECK.due(call, got, want);
    }

    /** So many pieces more of one WORN, 9999 a call. */
    private static void fill(CoinBoats x, int place, int kind, int worn, int n) {
        int there = x.has(place, kind, worn);
        for (int left = n; left > 0; left -= Math.min(left, 9999)) {
            there += Math.min(left, 9999);
            due("lay(" + place + ", " + kind + ", " + worn + ", ..)", x.lay(place, kind, worn, Math.min(left, 9999)), there);
        }
    }

    private static void fullOfEach() {
        CoinBoats x = Check.told(TWO);
        due("has(2, 1, 0) at first", x.has(2, 1, 0), 0);
        for (int worn = 0; worn < 4; worn++) {
            fill(x, 2, 1, worn, MOST);
            due("lay one more", x.lay(2, 1, worn, 1), -1);
            due("has(2, 1, " + worn + ")", x.has(2, 1, worn), MOST);
        }
        due("all WORN are full, each by itself", x.has(2, 1, -1), 4 * MOST);
        due("another KIND", x.lay(2, 0, 3, 9999), 9999);
        due("another PLACE", x.lay(1, 1, 3, 9999), 9999);
        due("the house", x.strike(1, 9999), 9999);
        due("WORN 4", x.has(2, 1, 4), -1);
        due("lay WORN 4", x.lay(2, 1, 4, 1), -1);
        x = Check.told(TWO);
        for (int worn = 1; worn < 4; worn++) {
            fill(x, 0, 1, worn, MOST);
        }
        due("new ones, the worn ones are full", x.strike(1, 9999), 3 * MOST + 9999);
        due("has(0, 1, 0)", x.has(0, 1, 0), 9999);
    }

    private static void struck() {
        CoinBoats x = Check.told(TWO);
        due("strike(0, 1)", x.strike(0, 1), 1);
        due("strike(0, 9999)", x.strike(0, 9999), 10000);
        due("they are new", x.has(0, 0, 0), 10000);
        due("of another KIND", x.has(0, 1, -1), 0);
        due("at an ISLAND", x.has(1, 0, -1), 0);
        x.lay(0, 0, 3, 7);
        due("those that are worn count", x.strike(0, 2), 10009);
        due("new ones", x.has(0, 0, 0), 10002);
        x.burn(0, 0);
        due("strike(0, 3)", x.strike(0, 3), 3);
        due("NEW of each", x.spent(3), 3 * 10005);
    }

    private static void noSuchStrike() {
        CoinBoats x = Check.told(TWO);
        x.strike(0, 5);
        x.strike(1, 7);
        String ahead = Picture.of(x);
        for (int far : FAR) {
            due("strike(" + far + ", 1)", x.strike(far, 1), -1);
        }
        due("strike(-1, 1)", x.strike(-1, 1), -1);
        due("strike(2, 1)", x.strike(2, 1), -1);
        for (int n : new int[] {0, -1, -5, 10000, 10001, Integer.MIN_VALUE, Integer.MAX_VALUE}) {
            due("strike(0, " + n + ")", x.strike(0, n), -1);
        }
        CHECK.due("nothing happens", Picture.of(x), ahead);
    }

    private static void struckTooMany() {
        CoinBoats x = Check.told(TWO);
        fill(x, 0, 1, 0, 990001);
        String ahead = Picture.of(x);
        due("strike 9999, 1000000 would be there", x.strike(1, 9999), -1);
        CHECK.due("nothing happens", Picture.of(x), ahead);
        due("strike 9998", x.strike(1, 9998), MOST);
        ahead = Picture.of(x);
        due("strike 1", x.strike(1, 1), -1);
        due("strike 9999", x.strike(1, 9999), -1);
        CHECK.due("nothing happens", Picture.of(x), ahead);
        due("NEW of 9998", x.spent(3), 99980);
        due("of another KIND", x.strike(0, 1), 1);
        due("burn(1, 0)", x.burn(1, 0), MOST);
        due("strike 1", x.strike(1, 1), 1);
    }

    private static CoinBoats fourWorn() {
        CoinBoats x = Check.told(TWO);
        for (int worn = 0; worn < 4; worn++) {
            x.lay(0, 0, worn, 1 << 3 * worn);
            x.lay(0, 1, worn, 5);
            x.lay(1, 0, worn, 6);
        }
        return x;
    }

    private static void burnt() {
        int[] burnt = {585, 584, 576, 512};
        for (int worn = 0; worn < 4; worn++) {
            CoinBoats x = fourWorn();
            due("burn(0, " + worn + ")", x.burn(0, worn), burnt[worn]);
            for (int w = 0; w < 4; w++) {
                due("has(0, 0, " + w + ")", x.has(0, 0, w), w < worn ? 1 << 3 * w : 0);
            }
            due("of another KIND", x.has(0, 1, -1), 20);
            due("at an ISLAND", x.has(1, 0, -1), 24);
            due("burn once more", x.burn(0, worn), 0);
        }
        CoinBoats x = Check.told(TWO);
        due("nothing there", x.burn(1, 0), 0);
        for (int worn = 0; worn < 4; worn++) {
            fill(x, 0, 0, worn, MOST);
        }
        due("all full", x.burn(0, 0), 4 * MOST);
        due("has(0, 0, -1)", x.has(0, 0, -1), 0);
    }

    private static void noSuchBurn() {
        CoinBoats x = fourWorn();
        String ahead = Picture.of(x);
        for (int far : FAR) {
            due("burn(" + far + ", 0)", x.burn(far, 0), -1);
            due("burn(0, " + far + ")", x.burn(0, far), -1);
        }
        due("burn(-1, 0)", x.burn(-1, 0), -1);
        due("burn(2, 0)", x.burn(2, 0), -1);
        due("burn(0, -1)", x.burn(0, -1), -1);
        due("burn(0, 4)", x.burn(0, 4), -1);
        CHECK.due("nothing happens", Picture.of(x), ahead);
    }

    private static void laid() {
        CoinBoats x = Check.told(TWO);
        for (int place = 0; place < 3; place++) {
            for (int worn = 0; worn < 4; worn++) {
                due("lay none", x.lay(place, 1, worn, 0), 0);
                due("lay 9999", x.lay(place, 1, worn, 9999), 9999);
                due("lay 1", x.lay(place, 1, worn, 1 + worn), 10000 + worn);
                due("lay none", x.lay(place, 1, worn, 0), 10000 + worn);
            }
            due("has all", x.has(place, 1, -1), 40006);
            due("of another KIND", x.has(place, 0, -1), 0);
        }
        due("it costs nothing", x.spent(0), 0);
    }

    private static void noSuchLay() {
        CoinBoats x = fourWorn();
        String ahead = Picture.of(x);
        for (int far : FAR) {
            due("lay(" + far + ", 0, 0, 1)", x.lay(far, 0, 0, 1), -1);
            due("lay(0, " + far + ", 0, 1)", x.lay(0, far, 0, 1), -1);
            due("lay(0, 0, " + far + ", 1)", x.lay(0, 0, far, 1), -1);
        }
        due("lay(-1, 0, 0, 1)", x.lay(-1, 0, 0, 1), -1);
        due("lay(3, 0, 0, 1)", x.lay(3, 0, 0, 1), -1);
        due("lay(0, -1, 0, 1)", x.lay(0, -1, 0, 1), -1);
        due("lay(0, 2, 0, 1)", x.lay(0, 2, 0, 1), -1);
        due("lay(0, 0, -1, 1)", x.lay(0, 0, -1, 1), -1);
        due("lay(0, 0, 4, 1)", x.lay(0, 0, 4, 1), -1);
        for (int n : new int[] {-1, -6, 10000, Integer.MIN_VALUE, Integer.MAX_VALUE}) {
            due("lay(0, 0, 0, " + n + ")", x.lay(0, 0, 0, n), -1);
        }
        CHECK.due("nothing happens", Picture.of(x), ahead);
    }

    private static void laidTooMany() {
        for (int worn = 0; worn < 4; worn += 3) {
            CoinBoats x = Check.told(TWO);
            fill(x, 1, 0, worn, 990001);
            due("lay 9999, 1000000 would be there", x.lay(1, 0, worn, 9999), -1);
            due("nothing happens", x.has(1, 0, -1), 990001);
            due("lay 9998", x.lay(1, 0, worn, 9998), MOST);
            due("lay 1", x.lay(1, 0, worn, 1), -1);
            due("lay 9999", x.lay(1, 0, worn, 9999), -1);
            due("lay none", x.lay(1, 0, worn, 0), MOST);
            due("nothing happens", x.has(1, 0, -1), MOST);
            due("of another WORN", x.lay(1, 0, 3 - worn, 1), 1);
        }
    }

    private static void has() {
        CoinBoats x = fourWorn();
        for (int worn = 0; worn < 4; worn++) {
            due("has(0, 0, " + worn + ")", x.has(0, 0, worn), 1 << 3 * worn);
        }
        due("has(0, 0, NONE)", x.has(0, 0, CoinBoats.NONE), 585);
        due("has(0, 1, NONE)", x.has(0, 1, CoinBoats.NONE), 20);
        due("has(1, 0, NONE)", x.has(1, 0, CoinBoats.NONE), 24);
        due("has(2, 1, NONE)", x.has(2, 1, CoinBoats.NONE), 0);
        due("has(2, 1, 3)", x.has(2, 1, 3), 0);
    }

    private static void hasNoSuch() {
        CoinBoats x = fourWorn();
        for (int far : FAR) {
            due("has(" + far + ", 0, 0)", x.has(far, 0, 0), -1);
            due("has(0, " + far + ", 0)", x.has(0, far, 0), -1);
            due("has(0, 0, " + far + ")", x.has(0, 0, far), -1);
            due("has(" + far + ", 0, -1)", x.has(far, 0, -1), -1);
        }
        due("has(-1, 0, 0)", x.has(-1, 0, 0), -1);
        due("has(3, 0, 0)", x.has(3, 0, 0), -1);
        due("has(0, -1, 0)", x.has(0, -1, 0), -1);
        due("has(0, 2, 0)", x.has(0, 2, 0), -1);
        due("has(0, 0, 4)", x.has(0, 0, 4), -1);
        due("has(0, 0, -2)", x.has(0, 0, -2), -1);
    }
}
