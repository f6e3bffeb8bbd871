/** Boundary cases of what trickles back, of burning and sorting, of SLOTS and counts: promises 40 to 46, and term V's end. */
public final class BoundaryEndsTest {
    private static final Check CHECK = new Check();
    private static final String TWO = "kind k 1 1 3;kind l 5 1 10;island i 9 2;island j 9 1;want i k=9;want j k=1;boat i 0 99 4;";
    private static final int[] FAR = {-1, -2, -1000000, Integer.MIN_VALUE, Integer.MAX_VALUE, 10000, 99999999};

    public static void main(String[] args) {
        Sentences s = new Sentences(CHECK);
        sentences(s);
        s.run();
    }

    static void sentences(Sentences s) {
        s.hold("Term V", "TRICKLE: of n pieces (0 .. 9999) of a KIND that is ended, each month a of ten (0 .. 10, rounded up) of those"
            + " that are still out come back,", BoundaryEndsTest::roundedUp);
        s.hold("Term V", "w of ten (0 .. 10) of the rest, rounded down, are lost.", BoundaryEndsTest::roundedDown);
        s.hold("Term V", "BURN: a piece is WORN 0 for s months (1 .. 12), then 1, 2, 3 for as long each; a month WORN i harms by i * i * c"
            + " (c 0 .. 99):", BoundaryEndsTest::harms);
        s.hold("Term V", "at which stage j (1 .. 4) to burn it, when it comes to that, so that what it costs (NEW, and its harms till then)"
            + " by its j * s months is least;", BoundaryEndsTest::stages);
        s.hold("Term V", "of alike ones the least. SORT:", BoundaryEndsTest::stagesAlike);
        s.hold("Term V", "n pieces here (a each, b of a hundred wrong, e for a wrong one) or there (likewise, and freight f for all):",
            BoundaryEndsTest::hereOrThere);
        s.hold("Term V", "the lesser, here if alike, by 100 times costs.", BoundaryEndsTest::hereIfAlike);
        s.hold("Promise 40", "TRICKLE: how many came back in the first m months (0 .. 60);", BoundaryEndsTest::firstMonths);
        s.hold("Promise 40", "NONE: no such ones.", BoundaryEndsTest::noSuchTrickle);
        s.hold("Promise 41", "Behind how many months no more than x (0 .. 9999) are out;", BoundaryEndsTest::noMoreOut);
        s.hold("Promise 41", "-2: not within 240;", BoundaryEndsTest::never);
        s.hold("Promise 41", "NONE: no such ones.", BoundaryEndsTest::noSuchTrickled);
        s.hold("Promise 42", "BURN: the stage;", BoundaryEndsTest::eachStage);
        s.hold("Promise 42", "NONE: no such KIND, c, s.", BoundaryEndsTest::noSuchBurnAt);
        s.hold("Promise 43", "SORT (n, a, e, f 0 .. 9999, b 0 .. 100; there: a, b, e): 1 there, 0 here;", BoundaryEndsTest::sortsMost);
        s.hold("Promise 43", "NONE: no such ones.", BoundaryEndsTest::noSuchSort);
        slots(s);
    }

    private static void slots(Sentences s) {
        s.hold("Promise 44", "All (text, pieces, SENDINGS, BOOKS, TIME, SPENT, LACKS) but the tape is held in a SLOT (0, 1): true;",
            BoundaryEndsTest::allIsHeld);
        s.hold("Promise 44", "false: no such one.", BoundaryEndsTest::noSuchHold);
        s.hold("Promise 45", "All goes on from what a SLOT holds (that stays there): true;", BoundaryEndsTest::goesOn);
        s.hold("Promise 45", "false, and nothing happens: no such one,", BoundaryEndsTest::noSuchRestore);
        s.hold("Promise 45", "nothing is held.", BoundaryEndsTest::nothingHeld);
        s.hold("Promise 46", "0 KINDS, 1 ISLANDS, 2 WANTS, 3 FLOWS, 4 BOATS,", BoundaryEndsTest::countsOfTheText);
        s.hold("Promise 46", "5 SENDINGS, 6 BOOKS' rows, 7 TIME,", BoundaryEndsTest::countsOfUse);
        s.hold("Promise 46", "8 bytes on the tape, 9 SLOTS that hold something,", BoundaryEndsTest::countsOfTapeAndSlots);
        s.hold("Promise 46", "10 LOSSES, 11 WEARS.", BoundaryEndsTest::countsOfLossesAndWears);
        s.hold("Promise 46", "NONE for others.", BoundaryEndsTest::noSuchCount);
    }

    private static void due(String call, long got, long want) {
        CHECK.due(call, got, want);
    }

    private static void roundedUp() {
        CoinBoats x = new CoinBoats();
        for (int n = 0; n <= 20; n++) {
            for (int a = 0; a <= 10; a += 1 + n % 2) {
                due("trickle(" + n + ", " + a + ", 0, 1)", x.trickle(n, a, 0, 1), (int) Math.ceil(n * a / 10.0));
            }
        }
        due("1 of ten of 1", x.trickle(1, 1, 0, 1), 1);
        due("1 of ten of 10", x.trickle(10, 1, 0, 1), 1);
        due("1 of ten of 11", x.trickle(11, 1, 0, 1), 2);
        due("9 of ten of 1", x.trickle(1, 9, 0, 1), 1);
        due("10 of ten of 9999", x.trickle(9999, 10, 0, 1), 9999);
        due("0 of ten of 9999", x.trickle(9999, 0, 0, 60), 0);
        due("none", x.trickle(0, 10, 10, 60), 0);
        due("n 10000", x.trickle(10000, 1, 0, 1), -1);
        due("a 11", x.trickle(1, 11, 0, 1), -1);
        // Of those that are still out: 5 of 9, then 2 of 4, 1 of 2, 1 of 1.
        int[] came = {0, 5, 7, 8, 9, 9};
        for (int m = 0; m < came.length; m++) {
            due("trickle(9, 5, 0, " + m + ")", x.trickle(9, 5, 0, m), came[m]);
        }
    }

    private static void roundedDown() {
        CoinBoats x = new CoinBoats();
        // Nothing comes back: so many are out behind one month.
        for (int n = 0; n <= 20; n++) {
            for (int w = 0; w <= 10; w += 1 + n % 2) {
                int out = n - (int) Math.floor(n * w / 10.0);
                due("all but " + out, x.trickled(n, 0, w, out), out == n ? 0 : 1);
                int longer = out == 0 ? -2 : x.trickled(n, 0, w, out - 1);
                CHECK.due("one less takes longer", longer > 1 || longer == -2, true);
            }
        }
        due("9 of ten of 1 is none", x.trickled(1, 0, 9, 0), -2);
        due("10 of ten of 1", x.trickled(1, 0, 10, 0), 1);
        due("10 of ten of 9999", x.trickled(9999, 0, 10, 0), 1);
        // Of the rest alone: 2 of 10 come back, 5 of ten of 8 are lost.
        due("6 less", x.trickled(10, 2, 5, 4), 1);
        due("6 less", x.trickled(10, 2, 5, 3), 2);
        due("1 of 4 comes back", x.trickle(10, 2, 5, 2), 3);
        due("10 of ten of the rest", x.trickle(9999, 1, 10, 60), 1000);
        due("10 and 10 of ten", x.trickle(9999, 10, 10, 60), 9999);
        due("w 11", x.trickle(1, 1, 11, 1), -1);
    }

    private static void firstMonths() {
        CoinBoats x = new CoinBoats();
        due("m 0", x.trickle(9999, 10, 0, 0), 0);
        due("m 1", x.trickle(9999, 10, 0, 1), 9999);
        due("m 60", x.trickle(9999, 10, 0, 60), 9999);
        // 1 of ten, rounded up: from 60 on, 6, 6, 5, 5, 4, 4, 3, 3, 3, 3, 2 (18), 2, .. and from 10 on one each.
        int out = 60;
        for (int m = 0; m <= 60; m++) {
            due("trickle(60, 1, 0, " + m + ")", x.trickle(60, 1, 0, m), 60 - out);
            out -= (out + 9) / 10;
        }
        due("m 61", x.trickle(60, 1, 0, 61), -1);
        // Not all are back by 60 months.
        due("trickle(9999, 1, 0, 59)", x.trickle(9999, 1, 0, 59) < x.trickle(9999, 1, 0, 60) ? 1 : 0, 1);
        due("trickle(9999, 1, 0, 60)", x.trickle(9999, 1, 0, 60) < 9999 ? 1 : 0, 1);
    }

    private static void noSuchTrickle() {
        CoinBoats x = new CoinBoats();
        int[] right = {9, 5, 5, 3};
        int[] most = {9999, 10, 10, 60};
        for (int i = 0; i < 4; i++) {
            for (int far : FAR) {
                int[] w = right.clone();
                w[i] = far;
                due("trickle with " + far + " at " + i, x.trickle(w[0], w[1], w[2], w[3]), -1);
            }
            int[] w = right.clone();
            w[i] = most[i] + 1;
            due("trickle with " + w[i] + " at " + i, x.trickle(w[0], w[1], w[2], w[3]), -1);
            w[i] = most[i];
            due("trickle with " + w[i] + " at " + i, x.trickle(w[0], w[1], w[2], w[3]) >= 0 ? 1 : 0, 1);
            w[i] = 0;
            due("trickle with 0 at " + i, x.trickle(w[0], w[1], w[2], w[3]) >= 0 ? 1 : 0, 1);
        }
    }

    private static void noMoreOut() {
        CoinBoats x = new CoinBoats();
        // Out are 9, 4, 2, 1, 0.
        int[] out = {9, 4, 2, 1, 0};
        for (int limit = 0; limit <= 12; limit++) {
            int months = 0;
            while (out[months] > limit) {
                months++;
            }
            due("trickled(9, 5, 0, " + limit + ")", x.trickled(9, 5, 0, limit), months);
        }
        due("just as many", x.trickled(9999, 10, 10, 9999), 0);
        due("one less", x.trickled(9999, 10, 10, 9998), 1);
        due("one less, slowly", x.trickled(9999, 1, 0, 9998), 1);
        due("none are out", x.trickled(0, 0, 0, 0), 0);
        due("none stay out", x.trickled(1, 1, 0, 0), 1);
        due("more than there are", x.trickled(5, 0, 0, 9999), 0);
    }

    private static void never() {
        CoinBoats x = new CoinBoats();
        due("nothing comes, nothing is lost", x.trickled(1, 0, 0, 0), -2);
        due("nothing comes, nothing is lost", x.trickled(9999, 0, 0, 9998), -2);
        due("nothing comes, nothing is lost", x.trickled(9999, 0, 0, 9999), 0);
        // 1 of ten of 9 is none; 10 lose one.
        due("9 stay out", x.trickled(9999, 0, 1, 8), -2);
        due("9 stay out", x.trickled(10, 0, 1, 9), 1);
        due("9 stay out", x.trickled(9, 0, 1, 8), -2);
        due("5 of ten of 1 is none", x.trickled(9999, 0, 5, 0), -2);
        due("one comes back each month at least", x.trickled(9999, 1, 0, 0) > 60 ? 1 : 0, 1);
        int out = 9999;
        int months = 0;
        while (out > 9) {
            out -= out / 10;
            months++;
        }
        due("9 of 9999", x.trickled(9999, 0, 1, 9), months);
    }

    private static void noSuchTrickled() {
        CoinBoats x = new CoinBoats();
        int[] right = {9, 5, 5, 3};
        int[] most = {9999, 10, 10, 9999};
        for (int i = 0; i < 4; i++) {
            for (int far : FAR) {
                int[] w = right.clone();
                w[i] = far;
                due("trickled with " + far + " at " + i, x.trickled(w[0], w[1], w[2], w[3]), -1);
            }
            int[] w = right.clone();
            w[i] = most[i] + 1;
            due("trickled with " + w[i] + " at " + i, x.trickled(w[0], w[1], w[2], w[3]), -1);
            w[i] = most[i];
            due("trickled with " + w[i] + " at " + i, x.trickled(w[0], w[1], w[2], w[3]) >= 0 ? 1 : 0, 1);
        }
    }

    /** KINDS with NEW 0, 1, 24, 30, 98, 99. */
    private static CoinBoats news() {
        return Check.told("kind a 1 1 0;kind b 1 1 1;kind c 1 1 24;kind d 1 1 30;kind e 1 1 98;kind f 1 1 99;");
    }

    private static void harms() {
        CoinBoats x = news();
        // NEW 30. By 1: 30. By 2: 30 + s c. By 3: 30 + 5 s c. By 4: 30 + 14 s c.
        due("c 0: the last", x.burnAt(3, 0, 1), 4);
        due("44 by 4, 35 by 3", x.burnAt(3, 1, 1), 4);
        due("58 by 4, 40 by 3, 32 by 2", x.burnAt(3, 2, 1), 3);
        due("72 by 4, 45 by 3, 33 by 2", x.burnAt(3, 3, 1), 3);
        due("50 by 3, 34 by 2", x.burnAt(3, 4, 1), 3);
        due("55 by 3, 35 by 2", x.burnAt(3, 5, 1), 2);
        due("59 by 2, 30 by 1", x.burnAt(3, 29, 1), 2);
        due("61 by 2, 30 by 1", x.burnAt(3, 31, 1), 1);
        due("c 99", x.burnAt(3, 99, 1), 1);
        // As long each: s 2 is as c doubled.
        due("58 by 4, 40 by 3, 32 by 2", x.burnAt(3, 1, 2), 3);
        due("c 99, s 12", x.burnAt(5, 99, 12), 1);
        due("c 8, s 12: 195 by 2", x.burnAt(5, 8, 12), 2);
        due("c 9, s 12: 207 by 2", x.burnAt(5, 9, 12), 1);
        due("c 98, s 1: 197 by 2", x.burnAt(5, 98, 1), 2);
        due("c 0, s 12", x.burnAt(1, 0, 12), 4);
        due("c 100", x.burnAt(3, 100, 1), -1);
        due("s 13", x.burnAt(3, 1, 13), -1);
        due("s 0", x.burnAt(3, 1, 0), -1);
    }

    private static void stages() {
        CoinBoats x = news();
        int[] seen = new int[5];
        int[] news = {0, 1, 24, 30, 98, 99};
        for (int kind = 0; kind < 6; kind++) {
            for (int c = 0; c < 100; c += c < 12 ? 1 : 29) {
                for (int s = 1; s <= 12; s += c == 1 ? 1 : 11) {
                    long[] costs = {0, news[kind], news[kind] + s * c, news[kind] + 5L * s * c, news[kind] + 14L * s * c};
                    int best = 1;
                    for (int j = 2; j <= 4; j++) {
                        best = costs[j] * best < costs[best] * j ? j : best;
                    }
                    due("burnAt(" + kind + ", " + c + ", " + s + ")", x.burnAt(kind, c, s), best);
                    seen[best]++;
                }
            }
        }
        for (int stage = 1; stage <= 4; stage++) {
            due("stage " + stage + " is the best at times", seen[stage] > 0 ? 1 : 0, 1);
        }
    }

    private static void eachStage() {
        CoinBoats x = news();
        // NEW 30 and c 31, 5, 2, 0.
        int[] harms = {31, 5, 2, 0};
        for (int stage = 1; stage <= 4; stage++) {
            due("stage " + stage, x.burnAt(3, harms[stage - 1], 1), stage);
        }
        due("the KIND's own NEW", x.burnAt(5, 31, 1), 2);
        due("the KIND's own NEW", x.burnAt(0, 5, 1), 1);
        x.lay(0, 3, 3, 9);
        due("what is there does not matter", x.burnAt(3, 0, 1), 4);
    }

    private static void stagesAlike() {
        CoinBoats x = news();
        due("NEW 0, c 0: nothing costs anything", x.burnAt(0, 0, 1), 1);
        due("NEW 0, c 0", x.burnAt(0, 0, 12), 1);
        due("NEW 0, c 1", x.burnAt(0, 1, 1), 1);
        due("30 by 1, 60 by 2", x.burnAt(3, 30, 1), 1);
        due("30 by 1, 60 by 2", x.burnAt(3, 10, 3), 1);
        due("30 by 1, 60 by 2", x.burnAt(3, 5, 6), 1);
        due("99 by 1, 198 by 2", x.burnAt(5, 99, 1), 1);
        due("98 by 1, 196 by 2", x.burnAt(4, 98, 1), 1);
        due("98 by 1, 196 by 2, s 7", x.burnAt(4, 14, 7), 1);
        // By 2: 98 + 14 is 112, by 3: 98 + 70 is 168: 56 each.
        due("112 by 2, 168 by 3", x.burnAt(4, 14, 1), 2);
        due("112 by 2, 168 by 3", x.burnAt(4, 2, 7), 2);
        due("111 by 2, 163 by 3", x.burnAt(4, 13, 1), 3);
        due("113 by 2, 173 by 3", x.burnAt(4, 15, 1), 2);
        // By 3 and by 4 alike is NEW 22 of c 1: (22 + 5) / 3, (22 + 14) / 4.
        CoinBoats y = Check.told("kind a 1 1 22;kind b 1 1 23;kind c 1 1 21;");
        due("27 by 3, 36 by 4", y.burnAt(0, 1, 1), 3);
        due("28 by 3, 37 by 4", y.burnAt(1, 1, 1), 4);
        due("26 by 3, 35 by 4", y.burnAt(2, 1, 1), 3);
    }

    private static void noSuchBurnAt() {
        CoinBoats x = news();
        for (int far : FAR) {
            due("burnAt(" + far + ", 1, 1)", x.burnAt(far, 1, 1), -1);
            due("burnAt(0, " + far + ", 1)", x.burnAt(0, far, 1), -1);
            due("burnAt(0, 1, " + far + ")", x.burnAt(0, 1, far), -1);
        }
        due("KIND 6", x.burnAt(6, 1, 1), -1);
        due("c 100", x.burnAt(0, 100, 1), -1);
        due("s 0", x.burnAt(0, 1, 0), -1);
        due("s 13", x.burnAt(0, 1, 13), -1);
        due("c 99, s 12", x.burnAt(0, 99, 12), 1);
        due("no KIND", new CoinBoats().burnAt(0, 1, 1), -1);
    }

    private static void hereOrThere() {
        CoinBoats x = new CoinBoats();
        // 100 times costs: 10 * (100 * 3 + 20 * 7) here, 10 * (100 * 2 + 30 * 7) + 100 * f there.
        due("4400 and 4300", x.sort(10, 3, 20, 2, 30, 7, 2), 1);
        due("4400 and 4500", x.sort(10, 3, 20, 2, 30, 7, 4), 0);
        due("no piece, no freight", x.sort(0, 9999, 100, 0, 0, 9999, 0), 0);
        due("no piece, but freight", x.sort(0, 9999, 100, 0, 0, 9999, 1), 0);
        due("freight once for all", x.sort(3, 1, 0, 0, 0, 0, 2), 1);
        due("a part of a hundred", x.sort(1, 0, 1, 0, 0, 1, 0), 1);
        due("a part of a hundred there", x.sort(1, 0, 0, 0, 1, 1, 0), 0);
        due("all wrong there, nothing for a wrong one", x.sort(1, 1, 0, 0, 100, 0, 0), 1);
        due("all wrong there, 1 for each", x.sort(1, 1, 0, 0, 100, 1, 0), 0);
        due("all wrong there, 1 for each, one more here", x.sort(1, 2, 0, 0, 100, 1, 0), 1);
    }

    private static void hereIfAlike() {
        CoinBoats x = new CoinBoats();
        due("all is nothing", x.sort(0, 0, 0, 0, 0, 0, 0), 0);
        due("4400 and 4400", x.sort(10, 3, 20, 2, 30, 7, 3), 0);
        due("alike", x.sort(9999, 9999, 100, 9999, 100, 9999, 0), 0);
        due("1 of a hundred less there", x.sort(1, 0, 2, 0, 1, 1, 0), 1);
        due("2 and 2 of a hundred", x.sort(1, 0, 2, 0, 2, 1, 0), 0);
        due("999900 and 999900", x.sort(1, 9999, 0, 0, 0, 0, 9999), 0);
        due("999900 and 999800", x.sort(1, 9999, 0, 0, 0, 0, 9998), 1);
        // 1 of a hundred of 100 pieces is 1: alike with 1 of freight.
        due("100 and 100", x.sort(100, 0, 1, 0, 0, 1, 1), 0);
        due("101 and 100", x.sort(101, 0, 1, 0, 0, 1, 1), 1);
    }

    private static void sortsMost() {
        CoinBoats x = new CoinBoats();
        due("the most here", x.sort(9999, 9999, 100, 0, 0, 9999, 9999), 1);
        due("the most there", x.sort(9999, 0, 0, 9999, 100, 9999, 9999), 0);
        due("the most of both, freight", x.sort(9999, 9999, 100, 9999, 100, 9999, 9999), 0);
        due("the most, 1 of a hundred", x.sort(9999, 9999, 100, 9999, 99, 9999, 9999), 1);
        due("the most, a 1 less there", x.sort(9999, 9999, 100, 9998, 100, 9999, 9998), 1);
        due("the most, a 1 less there, as much freight", x.sort(9999, 9999, 100, 9998, 100, 9999, 9999), 0);
        // 9999 * 9999 * 100 is beyond 32 bits.
        due("9998000100", x.sort(9999, 0, 100, 0, 0, 9999, 9999), 1);
        due("9998000100 there", x.sort(9999, 0, 0, 0, 100, 9999, 0), 0);
    }

    private static void noSuchSort() {
        CoinBoats x = new CoinBoats();
        int[] most = {9999, 9999, 100, 9999, 100, 9999, 9999};
        for (int i = 0; i < 7; i++) {
            for (int far : FAR) {
                int[] w = {9, 5, 5, 5, 5, 5, 5};
                w[i] = far;
                due("sort with " + far + " at " + i, x.sort(w[0], w[1], w[2], w[3], w[4], w[5], w[6]), -1);
            }
            int[] w = {9, 5, 5, 5, 5, 5, 5};
            w[i] = most[i] + 1;
            due("sort with " + w[i] + " at " + i, x.sort(w[0], w[1], w[2], w[3], w[4], w[5], w[6]), -1);
            w[i] = most[i];
            due("sort with " + w[i] + " at " + i, x.sort(w[0], w[1], w[2], w[3], w[4], w[5], w[6]) >= 0 ? 1 : 0, 1);
            w[i] = 0;
            due("sort with 0 at " + i, x.sort(w[0], w[1], w[2], w[3], w[4], w[5], w[6]) >= 0 ? 1 : 0, 1);
        }
    }

    private static CoinBoats used() {
        CoinBoats x = Check.told(TWO);
        x.strike(0, 7);
        x.lay(2, 1, 3, 5);
        x.send(0, 1, 0, 2, false);
        x.send(12, 1, 0, 1, true);
        x.book(1, 0, 7, true);
        x.looked(1, 5, 2);
        x.months(1, 2);
        return x;
    }

    /** Changes all that can be held. */
    private static void use(CoinBoats x) {
        x.strike(1, 3);
        x.burn(0, 0);
        x.lay(1, 0, 2, 6);
        x.send(12, 1, 1, 1, false);
        x.annul(0);
        x.looked(2, 9, 1);
        x.months(1, 12);
    }

    private static void allIsHeld() {
        for (int slot = 0; slot < 2; slot++) {
            CoinBoats x = used();
            String ahead = Picture.of(x);
            CHECK.due("hold(" + slot + ")", x.hold(slot), true);
            due("a SLOT holds something", x.count(9), 1);
            use(x);
            CHECK.due("it is another picture", Picture.of(x).equals(ahead), false);
            Check.feed(x, "kind");
            CHECK.due("restore(" + slot + ")", x.restore(slot), true);
            due("the tape is not held", x.count(8), 4);
            x.back(4);
            CHECK.due("all is as it was held", Picture.of(x), ahead);
        }
        CoinBoats x = new CoinBoats();
        CHECK.due("hold(0) of nothing told", x.hold(0), true);
        x.months(1, 3);
        CHECK.due("restore(0)", x.restore(0), true);
        due("TIME", x.count(7), 0);
    }

    private static void noSuchHold() {
        CoinBoats x = used();
        String ahead = Picture.of(x);
        for (int far : new int[] {-1, 2, 3, -2, Integer.MIN_VALUE, Integer.MAX_VALUE}) {
            CHECK.due("hold(" + far + ")", x.hold(far), false);
        }
        CHECK.due("nothing happens", Picture.of(x), ahead);
        due("no SLOT holds anything", x.count(9), 0);
        CHECK.due("restore(0)", x.restore(0), false);
        CHECK.due("restore(1)", x.restore(1), false);
    }

    private static void goesOn() {
        CoinBoats x = used();
        CHECK.due("hold(0)", x.hold(0), true);
        String first = Picture.of(x);
        use(x);
        CHECK.due("hold(1)", x.hold(1), true);
        CHECK.due("restore(0)", x.restore(0), true);
        due("two SLOTS hold something", x.count(9), 2);
        due("the months of the first", x.count(7), 2);
        use(x);
        use(x);
        CHECK.due("restore(0) once more: it stays there", x.restore(0), true);
        due("the months of the first", x.count(7), 2);
        CHECK.due("restore(1)", x.restore(1), true);
        due("the months of the second", x.count(7), 14);
        due("BOOKS of the second", x.count(6), 4);
        CHECK.due("restore(0) behind restore(1)", x.restore(0), true);
        due("BOOKS of the first", x.count(6), 2);
        // What a SLOT held gives way.
        x.lay(0, 0, 0, 1);
        CHECK.due("hold(0) again", x.hold(0), true);
        use(x);
        CHECK.due("restore(0)", x.restore(0), true);
        due("has(0, 0, 0)", x.has(0, 0, 0), 6);
        x.burn(0, 0);
        x.lay(0, 0, 0, 5);
        CHECK.due("all but that is as at first", Picture.of(x), first);
    }

    private static void noSuchRestore() {
        CoinBoats x = used();
        x.hold(0);
        x.hold(1);
        x.lay(0, 0, 0, 1);
        String ahead = Picture.of(x);
        for (int far : new int[] {-1, 2, 3, -2, Integer.MIN_VALUE, Integer.MAX_VALUE}) {
            CHECK.due("restore(" + far + ")", x.restore(far), false);
        }
        CHECK.due("nothing happens", Picture.of(x), ahead);
    }

    private static void nothingHeld() {
        CoinBoats x = used();
        String ahead = Picture.of(x);
        CHECK.due("restore(0)", x.restore(0), false);
        CHECK.due("restore(1)", x.restore(1), false);
        CHECK.due("nothing happens", Picture.of(x), ahead);
        x.hold(1);
        x.lay(0, 0, 0, 1);
        ahead = Picture.of(x);
        CHECK.due("restore(0), the other one holds", x.restore(0), false);
        CHECK.due("nothing happens", Picture.of(x), ahead);
        due("a text", Check.tell(x, TWO), 0);
        CHECK.due("restore(1) behind a text", x.restore(1), false);
        due("count(7)", x.count(7), 0);
    }

    private static void countsOfTheText() {
        CoinBoats x = new CoinBoats();
        for (int what = 0; what < 12; what++) {
            due("count(" + what + ") of nothing", x.count(what), 0);
        }
        // So many of each, no two alike.
        String text = "kind k 1 1 1;kind l 1 1 1;island i 1 1;" + "want i k=1;".repeat(3) + "flow i house k=1;".repeat(4)
            + "lost i k=1;".repeat(10) + "wear k=1;".repeat(11);
        for (int month = 0; month < 5; month++) {
            text += "boat i " + month + " 1 1;";
        }
        x = Check.told(text);
        int[] want = {2, 1, 3, 4, 5, 0, 0, 0, 0, 0, 10, 11};
        for (int what = 0; what < 12; what++) {
            due("count(" + what + ")", x.count(what), want[what]);
        }
        text = "";
        for (int i = 0; i < 12; i++) {
            text += "want i a=1;lost i a=1;flow i house a=1;wear a=1;boat i " + i + " 1 1;";
        }
        x = Check.told("kind a 1 1 1;kind b 1 1 1;kind c 1 1 1;kind d 1 1 1;kind e 1 1 1;kind f 1 1 1;island i 1 1;island j 1 1;"
            + "island k 1 1;island l 1 1;" + text.substring(0, text.indexOf("boat i 7")));
        int[] most = {6, 4, 8, 8, 7, 0, 0, 0, 0, 0, 8, 8};
        for (int what = 0; what < 12; what++) {
            due("count(" + what + ")", x.count(what), most[what]);
        }
    }

    private static void countsOfLossesAndWears() {
        String text = "kind k 1 1 1;island i 1 1;";
        for (int n = 0; n <= 12; n++) {
            CoinBoats x = Check.told(text + "lost i k=1;".repeat(n) + "wear k=1;".repeat(12 - n));
            due("count(10)", x.count(10), n);
            due("count(11)", x.count(11), 12 - n);
        }
    }

    private static void countsOfUse() {
        CoinBoats x = Check.told(TWO);
        for (int i = 1; i <= 40; i++) {
            x.send(0, 1, 0, 1, false);
            due("count(5)", x.count(5), i);
        }
        x.send(0, 1, 0, 1, false);
        due("count(5) of 40", x.count(5), 40);
        for (int i = 1; i <= 60; i++) {
            x.book(1, 0, 1, true);
            due("count(6)", x.count(6), i);
        }
        x.annul(0);
        due("count(6) of 60", x.count(6), 60);
        for (int i = 1; i <= 10; i++) {
            x.months(1, 24);
            due("count(7)", x.count(7), 24 * i);
        }
        x.months(1, 1);
        due("count(7) of 240", x.count(7), 240);
        due("SENDINGS that are gone by count", x.count(5), 40);
    }

    private static void countsOfTapeAndSlots() {
        CoinBoats x = new CoinBoats();
        due("no byte", x.count(8), 0);
        for (int i = 1; i <= 100; i++) {
            x.feed(0, 0, 0, 0, 0);
            due("count(8)", x.count(8), 20 * i);
        }
        x.feed(0, 0, 0, 0, 0);
        due("count(8) of 2000", x.count(8), 2000);
        x.back(1999);
        due("count(8) of one", x.count(8), 1);
        x.read();
        due("no byte", x.count(8), 0);
        due("no SLOT", x.count(9), 0);
        x.hold(1);
        due("one SLOT", x.count(9), 1);
        x.hold(1);
        due("the same SLOT", x.count(9), 1);
        x.hold(0);
        due("two SLOTS", x.count(9), 2);
        x.restore(0);
        due("two SLOTS", x.count(9), 2);
        x.read();
        due("no SLOT", x.count(9), 0);
    }

    private static void noSuchCount() {
        CoinBoats x = used();
        for (int what : new int[] {-1, -2, 12, 13, 99, Integer.MIN_VALUE, Integer.MAX_VALUE}) {
            due("count(" + what + ")", x.count(what), -1);
        }
        due("count(0)", x.count(0), 2);
        due("count(11)", x.count(11), 0);
    }
}
