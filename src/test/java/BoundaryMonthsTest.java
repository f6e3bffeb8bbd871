/** Boundary cases of the MONTHS: promises 14 to 20, and term II from its MONTH on. */
public final class BoundaryMonthsTest {
    private static final Check CHECK = new Check();
    private static final String TWO = "kind k 1 2 3;kind l 2 1 10;island i 10 4;island j 20 9;";
    private static final int[] FAR = {-2, -1000000, Integer.MIN_VALUE, Integer.MAX_VALUE, 99};
    private static final int[] SEEDS = {0, 1, 7, -1, Integer.MIN_VALUE, Integer.MAX_VALUE, -987654321};

    public static void main(String[] args) {
        Sentences s = new Sentences(CHECK);
        sentences(s);
        s.run();
    }

    static void sentences(Sentences s) {
        s.hold("Term II", "A MONTH of the YEARS (TIME t from 0 on, month t rest by 12),", BoundaryMonthsTest::roundTheYear);
        s.hold("Term II", "one thing behind the other:", BoundaryMonthsTest::oneBehindTheOther);
        s.hold("Term II", "SENDINGS of that TIME, by their numbers:", BoundaryMonthsTest::byNumbers);
        s.hold("Term II", "from the house to an ISLAND (or BACK) n pieces of a KIND, the least worn first (BACK: the most worn first),",
            BoundaryMonthsTest::wornFirst);
        s.hold("Term II", "by that ISLAND's BOAT of the month.", BoundaryMonthsTest::boatOfTheMonth);
        s.hold("Term II", "One is not DONE if there is no BOAT,", BoundaryMonthsTest::noBoat);
        s.hold("Term II", "the BOAT FAILS in that TIME (LOT 10 of the SEED and which 40 * t + the BOAT's number is below FAILS),",
            BoundaryMonthsTest::boatFails);
        s.hold("Term II", "the weight of all DONE by it and this one is above ROOM,", BoundaryMonthsTest::aboveRoom);
        s.hold("Term II", "or the pieces are not all there", BoundaryMonthsTest::notAllThere);
        s.hold("Term II", "(looked at in this order: reasons 1, 2, 3, 4; 0: DONE).", BoundaryMonthsTest::reasonsInOrder);
        flowsToLacks(s);
        promises(s);
    }

    private static void flowsToLacks(Sentences s) {
        s.hold("Term II", "FLOWS, one by one: so many pieces of the KIND as E says (month; has: how many of the KIND are there;",
            BoundaryMonthsTest::flowsByHas);
        s.hold("Term II", "noise: LOT 5 of which 1000 + 40 * t + its number) of the first PLACE,", BoundaryMonthsTest::flowsByNoise);
        s.hold("Term II", "held to 0 .. all there are,", BoundaryMonthsTest::flowsHeld);
        s.hold("Term II", "the most worn first, go to the second one, as worn as they are.", BoundaryMonthsTest::flowsAsWorn);
        s.hold("Term II", "WEARS, one by one, at all PLACES but the house:", BoundaryMonthsTest::wearsNotInTheHouse);
        s.hold("Term II", "of those WORN 2, then 1, then 0, so many as E says (month, has: how many are so, worn) become one more WORN.",
            BoundaryMonthsTest::wearsHeld);
        s.hold("Term II", "LOSSES, one by one: so many as E says (month, has) of the KIND are lost at the ISLAND, the most worn first.",
            BoundaryMonthsTest::lossesHeld);
        s.hold("Term II", "LACKS: for each WANT what E says (month; held to 0 .. 9999: that is WANTED),", BoundaryMonthsTest::wantsHeld);
        s.hold("Term II", "less what is there of the KIND, 0 at least: this is counted, and costs HARM each;",
            BoundaryMonthsTest::lacksNoLess);
        s.hold("Term II", "a BOAT by which something was DONE costs its COST;", BoundaryMonthsTest::boatsCost);
        s.hold("Term II", "a piece struck costs NEW.", BoundaryMonthsTest::struckCosts);
        s.hold("Term II", "SPENT is the sum of all since the text.", BoundaryMonthsTest::spentSinceTheText);
        s.hold("Term II", "LOT n of a SEED and a which: h is the SEED; for each of 15, which: h becomes (h and it, each bit of which is"
            + " in just one) times 1103515245 and 12345 more, then h and h moved 15 bits down (zeros come in), likewise; the rest"
            + " of h, moved 1 bit down likewise, by n (32 bits that wrap).", BoundaryMonthsTest::lots);
        s.hold("Term II", "JUDGED: the SENDINGS whose TIME is not gone by,", BoundaryMonthsTest::judgedNotGoneBy);
        s.hold("Term II", "TIME by TIME from now on,", BoundaryMonthsTest::judgedTimeByTime);
        s.hold("Term II", "as if nothing else happened (no FLOWS, WEARS, LOSSES; no BOAT fails):", BoundaryMonthsTest::judgedAlone);
        s.hold("Term II", "the first that would not be DONE.", BoundaryMonthsTest::judgedFirst);
    }

    private static void promises(Sentences s) {
        s.hold("Promise 14", "A SENDING at a TIME (now or later, 0 .. 239): its number.", BoundaryMonthsTest::sendAtTimes);
        s.hold("Promise 14", "NONE, and nothing happens: 40 are there,", BoundaryMonthsTest::sendForty);
        s.hold("Promise 14", "no such ISLAND, KIND, n (1 .. 9999).", BoundaryMonthsTest::noSuchSending);
        s.hold("Promise 15", "Why a SENDING was not DONE: 1 .. 4; 0: it is DONE;", BoundaryMonthsTest::whyNotDone);
        s.hold("Promise 15", "-2: it is not its TIME yet;", BoundaryMonthsTest::notItsTime);
        s.hold("Promise 15", "NONE: no such one.", BoundaryMonthsTest::noSuchDone);
        s.hold("Promise 16", "JUDGED: the number of the first SENDING;", BoundaryMonthsTest::judgedNumbers);
        s.hold("Promise 16", "-2: all would be DONE.", BoundaryMonthsTest::allDone);
        s.hold("Promise 17", "Its reason (1, 3, 4);", BoundaryMonthsTest::why);
        s.hold("Promise 17", "0: all would be DONE.", BoundaryMonthsTest::noReason);
        s.hold("Promise 18", "k MONTHS (1 .. 24) go by, with LOTS of a SEED: how many pieces were lacked in them.",
            BoundaryMonthsTest::monthsGoBy);
        s.hold("Promise 18", "NONE, and nothing happens: no such k,", BoundaryMonthsTest::noSuchMonths);
        s.hold("Promise 18", "TIME would be above 240.", BoundaryMonthsTest::lastTime);
        s.hold("Promise 19", "How many pieces of a KIND were lacked at an ISLAND since the text;", BoundaryMonthsTest::lackedSinceTheText);
        s.hold("Promise 19", "NONE: no such ones.", BoundaryMonthsTest::noSuchLacks);
        s.hold("Promise 20", "SPENT: what 0 all, 1 HARM, 2 BOATS, 3 NEW;", BoundaryMonthsTest::spentOfAll);
        s.hold("Promise 20", "-1: no such what.", BoundaryMonthsTest::noSuchSpent);
    }

    private static void due(String call, long got, long want) {
        CHECK.due(call, got, want);
    }

    private static void pieces(CoinBoats x, int place, int kind, int... want) {
        for (int worn = 0; worn < 4; worn++) {
            due("has(" + place + ", " + kind + ", " + worn + ")", x.has(place, kind, worn), want[worn]);
        }
    }

    private static void lay(CoinBoats x, int place, int kind, int... n) {
        for (int worn = 0; worn < 4; worn++) {
            x.lay(place, kind, worn, n[worn]);
        }
    }

    /** Months up to a TIME. */
    private static void pass(CoinBoats x, int seed, int time) {
        for (int now = x.count(7); now < time; now += Math.min(24, time - now)) {
            due("months", x.months(seed, Math.min(24, time - now)) >= 0 ? 1 : 0, 1);
        }
        due("count(7)", x.count(7), time);
    }

    private static void roundTheYear() {
        CoinBoats x = Check.told(TWO + "want i k=1000+month;boat i 0 9 1;boat j 11 9 1;flow house j l=[month==11];"
            + "lost j l=[month==0];");
        x.lay(0, 0, 0, 99);
        x.lay(0, 1, 0, 99);
        int[] zeros = {0, 12, 228};
        int[] elevens = {11, 23, 239};
        for (int i = 0; i < 3; i++) {
            x.send(zeros[i], 1, 1, 1, false);
            x.send(elevens[i], 2, 0, 1, false);
            x.send(elevens[i], 1, 1, 1, false);
            x.send(zeros[i], 2, 0, 1, false);
        }
        due("TIME at first", x.count(7), 0);
        for (int t = 0; t < 26; t++) {
            due("lacked at TIME " + t, x.months(1, 1), 1000 + t % 12);
            due("FLOWS of month 11, LOSSES of month 0", x.has(2, 1, -1), t % 12 == 11 ? 1 : 0);
        }
        pass(x, 1, 240);
        for (int n = 0; n < 12; n++) {
            due("done(" + n + ")", x.done(n), n % 4 < 2 ? 0 : 1);
        }
    }

    private static void oneBehindTheOther() {
        // SENDINGS, FLOWS, WEARS, LOSSES, LACKS: each works on what the one ahead left.
        CoinBoats x = Check.told("kind k 1 1 0;island i 60 1;island j 60 1;boat i 0 9 5;flow i j k=has-2;wear k=has;lost j k=has-3;"
            + "want i k=5;want j k=5;");
        x.lay(0, 0, 0, 9);
        x.send(0, 1, 0, 9, false);
        due("months(1, 1)", x.months(1, 1), 3 + 2);
        pieces(x, 0, 0, 0, 0, 0, 0);
        pieces(x, 1, 0, 0, 2, 0, 0);
        pieces(x, 2, 0, 0, 3, 0, 0);
        // What comes by a FLOW is too late for a SENDING of that TIME.
        x = Check.told("kind k 1 1 0;island i 60 1;boat i 0 9 5;flow i house k=1;");
        x.lay(1, 0, 0, 1);
        x.send(0, 1, 0, 1, false);
        x.months(1, 1);
        due("done(0)", x.done(0), 4);
        due("has(0, 0, 0)", x.has(0, 0, 0), 1);
    }

    private static void byNumbers() {
        CoinBoats x = Check.told(TWO + "boat i 0 999 1;boat i 1 999 1;boat j 0 999 1;");
        x.lay(0, 0, 0, 5);
        x.send(1, 1, 0, 1, true);
        x.send(0, 1, 0, 4, false);
        x.send(0, 2, 0, 4, false);
        x.send(0, 2, 0, 1, false);
        x.send(1, 1, 0, 4, true);
        x.months(1, 1);
        due("of TIME 1", x.done(0), -2);
        due("the first takes 4 of 5", x.done(1), 0);
        due("the second would take 4 of 1", x.done(2), 4);
        due("the third takes 1 of 1", x.done(3), 0);
        due("of TIME 1", x.done(4), -2);
        x.months(1, 1);
        due("the first takes 1 of 4", x.done(0), 0);
        due("the last would take 4 of 3", x.done(4), 4);
        due("what was is not done again", x.done(2), 4);
        due("has(1, 0, -1)", x.has(1, 0, -1), 3);
    }

    private static void wornFirst() {
        for (int n = 1; n <= 10; n++) {
            CoinBoats x = Check.told(TWO + "boat i 0 999 1;");
            lay(x, 0, 0, 1, 2, 3, 4);
            lay(x, 1, 1, 1, 2, 3, 4);
            x.send(0, 1, 0, n, false);
            x.send(0, 1, 1, n, true);
            x.months(1, 1);
            int[] there = new int[4];
            int[] left = {1, 2, 3, 4};
            int[] back = new int[4];
            int[] stay = {1, 2, 3, 4};
            for (int one = 0; one < n; one++) {
                int least = 0;
                int most = 3;
                while (left[least] == 0) {
                    least++;
                }
                while (stay[most] == 0) {
                    most--;
                }
                left[least]--;
                there[least]++;
                stay[most]--;
                back[most]++;
            }
            pieces(x, 1, 0, there);
            pieces(x, 0, 0, left);
            pieces(x, 0, 1, back);
            pieces(x, 1, 1, stay);
        }
    }

    private static void boatOfTheMonth() {
        CoinBoats x = Check.told(TWO + "boat i 0 2 1;boat j 0 4 10;boat i 1 6 100;");
        x.lay(0, 0, 0, 99);
        for (int t = 0; t < 2; t++) {
            for (int place = 1; place <= 2; place++) {
                for (int n = 1; n <= 4; n++) {
                    x.send(t, place, 0, n, false);
                }
            }
        }
        x.months(1, 2);
        // ROOM 2 by WEIGHT 2: 1. ROOM 4: 1, no 2. ROOM 6: 1 and 2.
        int[] want = {0, 3, 3, 3, 0, 3, 3, 3, 0, 0, 3, 3, 1, 1, 1, 1};
        for (int n = 0; n < 16; n++) {
            due("done(" + n + ")", x.done(n), want[n]);
        }
        due("COST of all three", x.spent(2), 111);
    }

    private static void noBoat() {
        CoinBoats x = Check.told(TWO + "boat i 1 99 5;boat j 0 99 5;");
        x.lay(0, 0, 0, 99);
        x.lay(1, 0, 0, 9);
        x.send(0, 1, 0, 1, false);
        x.send(0, 1, 0, 1, true);
        x.send(1, 2, 0, 1, false);
        x.send(1, 1, 0, 1, false);
        x.months(1, 2);
        due("no BOAT of ISLAND 1 in month 0", x.done(0), 1);
        due("nor BACK", x.done(1), 1);
        due("no BOAT of ISLAND 2 in month 1", x.done(2), 1);
        due("the BOAT of month 1", x.done(3), 0);
        due("has(0, 0, -1)", x.has(0, 0, -1), 98);
        due("spent(2)", x.spent(2), 5);
    }

    /** A text with a BOAT of a number in a month. */
    private static String boatOfNumber(int number, int month, int fails) {
        StringBuilder text = new StringBuilder(TWO);
        for (int i = 0; i < number; i++) {
            text.append("boat i ").append(i).append(" 9 1;");
        }
        return text + "boat j " + month + " 9 7 fails " + fails + ";";
    }

    private static void boatFails() {
        // LOT 10 of which 40 * t, at TIME 0, 1, 11, 12, 228, 239; and of which 40 * t + 11, at TIME 0, 12, 239.
        int[] times = {0, 1, 11, 12, 228, 239, 0, 12, 239};
        int[][] lots = {{6, 7, 8, 0, 6, 1, 3, 5, 1}, {1, 9, 4, 7, 8, 2, 4, 2, 5}, {5, 7, 9, 8, 9, 1, 0, 1, 8},
            {9, 1, 3, 7, 5, 3, 0, 6, 1}, {9, 4, 7, 3, 3, 0, 2, 2, 8}, {0, 2, 2, 6, 0, 4, 3, 1, 2}, {2, 6, 0, 7, 8, 6, 5, 3, 0}};
        for (int seed = 0; seed < SEEDS.length; seed++) {
            for (int i = 0; i < times.length; i++) {
                for (int more = 0; more < 2; more++) {
                    CoinBoats x = Check.told(boatOfNumber(i < 6 ? 0 : 11, times[i] % 12, lots[seed][i] + more));
                    x.lay(0, 0, 0, 9);
                    x.send(times[i], 2, 0, 1, false);
                    pass(x, 99, times[i]);
                    x.months(SEEDS[seed], 1);
                    due("SEED " + SEEDS[seed] + ", TIME " + times[i] + ", FAILS its LOT and " + more, x.done(0), more == 0 ? 0 : 2);
                    due("has(2, 0, 0)", x.has(2, 0, 0), 1 - more);
                    due("spent(2)", x.spent(2), 7 - 7 * more);
                }
            }
        }
    }

    private static void aboveRoom() {
        CoinBoats x = Check.told(TWO + "boat i 0 20 1;boat i 1 20 1;boat j 0 20 1;");
        x.lay(0, 0, 0, 999);
        x.lay(1, 1, 0, 999);
        x.send(0, 1, 0, 11, false);
        x.send(0, 1, 0, 6, false);
        x.send(0, 1, 0, 5, false);
        x.send(0, 1, 1, 8, true);
        x.send(0, 1, 1, 1, true);
        x.send(0, 1, 0, 1, false);
        x.send(0, 2, 0, 10, false);
        x.send(1, 1, 0, 10, false);
        x.send(0, 2, 0, 9999, false);
        x.months(1, 2);
        int[] want = {3, 0, 3, 0, 3, 3, 0, 0, 3};
        for (int n = 0; n < want.length; n++) {
            due("done(" + n + ")", x.done(n), want[n]);
        }
        // ROOM 1: one of WEIGHT 1; none of WEIGHT 2.
        x = Check.told(TWO + "boat i 0 1 1;");
        x.lay(0, 0, 0, 9);
        x.lay(0, 1, 0, 9);
        x.send(0, 1, 0, 1, false);
        x.send(0, 1, 1, 1, false);
        x.months(1, 1);
        due("WEIGHT 2 in ROOM 1", x.done(0), 3);
        due("WEIGHT 1 in ROOM 1", x.done(1), 0);
    }

    private static void notAllThere() {
        CoinBoats x = Check.told(TWO + "boat i 0 999 1;");
        lay(x, 0, 1, 1, 2, 3, 4);
        lay(x, 1, 1, 0, 0, 5, 0);
        x.send(0, 1, 1, 11, false);
        x.send(0, 1, 1, 6, true);
        x.send(0, 1, 1, 5, true);
        x.send(0, 1, 1, 15, false);
        x.send(0, 1, 1, 1, false);
        x.send(0, 1, 0, 1, false);
        x.months(1, 1);
        int[] want = {4, 4, 0, 0, 4, 4};
        for (int n = 0; n < want.length; n++) {
            due("done(" + n + ")", x.done(n), want[n]);
        }
        due("all of them went", x.has(1, 1, -1), 15);
        due("none is left", x.has(0, 1, -1), 0);
        pieces(x, 1, 1, 1, 2, 8, 4);
    }

    private static void reasonsInOrder() {
        CoinBoats x = Check.told(TWO + "boat i 1 1 1 fails 10;boat i 2 1 1;boat i 3 999 1;");
        for (int t = 0; t < 4; t++) {
            x.send(t, 1, 0, 99, false);
        }
        x.send(3, 1, 0, 1, false);
        x.lay(0, 0, 0, 1);
        x.months(5, 4);
        due("no BOAT, nor ROOM, nor pieces", x.done(0), 1);
        due("a BOAT that FAILS, no ROOM, no pieces", x.done(1), 2);
        due("no ROOM, no pieces", x.done(2), 3);
        due("no pieces", x.done(3), 4);
        due("DONE", x.done(4), 0);
        due("spent(2)", x.spent(2), 1);
    }

    private static void whyNotDone() {
        CoinBoats x = Check.told(TWO + "boat i 0 9 1;boat i 1 9 1 fails 10;");
        x.lay(0, 1, 0, 12);
        x.send(0, 2, 1, 1, false);
        x.send(1, 1, 1, 1, false);
        x.send(0, 1, 1, 10, false);
        x.send(0, 1, 0, 1, false);
        x.send(0, 1, 1, 9, false);
        x.months(1, 2);
        due("no BOAT alone", x.done(0), 1);
        due("a BOAT that FAILS alone", x.done(1), 2);
        due("10 in a ROOM of 9 alone", x.done(2), 3);
        due("no pieces alone", x.done(3), 4);
        due("9 in a ROOM of 9", x.done(4), 0);
        x.lay(0, 0, 0, 99);
        x.months(1, 24);
        due("what was stays", x.done(3), 4);
        due("what was stays", x.done(4), 0);
    }

    private static void flowsByHas() {
        CoinBoats x = Check.told(TWO + "flow i j k=has/2;flow i j k=has/2;flow j house k=[month==1]*has;flow house i l=has-1;");
        lay(x, 1, 0, 1, 2, 3, 4);
        lay(x, 0, 0, 9, 9, 9, 9);
        lay(x, 0, 1, 2, 0, 0, 2);
        x.months(1, 1);
        due("5 of 10, then 2 of 5", x.has(2, 0, -1), 7);
        due("has(1, 0, -1)", x.has(1, 0, -1), 3);
        due("all but one", x.has(1, 1, -1), 3);
        due("of another KIND", x.has(1, 0, 0), 1);
        x.months(1, 1);
        // 1 of 3, then 1 of 2; all 9 to the house; none of 1.
        due("has(1, 0, -1)", x.has(1, 0, -1), 1);
        due("has(2, 0, -1)", x.has(2, 0, -1), 0);
        due("has(0, 0, -1)", x.has(0, 0, -1), 45);
        due("has(1, 1, -1)", x.has(1, 1, -1), 3);
    }

    private static void flowsByNoise() {
        // LOT 5 of which 1000 + 40 * t, at TIME 0, 1, 11, 12, 239; then of 1011 + 40 * t.
        int[] times = {0, 1, 11, 12, 239};
        int[][] first = {{2, 0, 1, 2, 3}, {4, 4, 2, 0, 3}, {3, 3, 1, 1, 4}, {0, 4, 2, 4, 3}, {2, 2, 2, 3, 4}, {3, 3, 4, 4, 4},
            {2, 4, 1, 1, 0}};
        int[][] last = {{2, 2, 3, 3, 4}, {4, 2, 4, 2, 4}, {0, 0, 2, 2, 4}, {1, 1, 1, 3, 3}, {4, 1, 3, 1, 3}, {3, 2, 3, 1, 0},
            {2, 1, 0, 0, 2}};
        for (int seed = 0; seed < SEEDS.length; seed++) {
            CoinBoats x = Check.told(TWO + "flow house i k=noise;" + "flow house i l=0;".repeat(10) + "flow house j k=10+noise;");
            x.lay(0, 0, 0, 9999);
            for (int i = 0; i < times.length; i++) {
                pass(x, SEEDS[seed], times[i]);
                int i1 = x.has(1, 0, 0);
                int i2 = x.has(2, 0, 0);
                x.months(SEEDS[seed], 1);
                due("FLOW 0, SEED " + SEEDS[seed] + ", TIME " + times[i], x.has(1, 0, 0) - i1, first[seed][i]);
                due("FLOW 11, SEED " + SEEDS[seed] + ", TIME " + times[i], x.has(2, 0, 0) - i2, 10 + last[seed][i]);
            }
        }
    }

    private static void flowsHeld() {
        CoinBoats x = Check.told(TWO + "flow i j k=has+1;flow i j l=0-1;flow j house l=9999*9999;flow house i l=256*256*256*128;");
        lay(x, 1, 0, 1, 2, 3, 4);
        lay(x, 1, 1, 1, 2, 3, 4);
        lay(x, 2, 1, 0, 9999, 0, 9999);
        lay(x, 0, 1, 5, 5, 5, 5);
        x.months(1, 1);
        pieces(x, 1, 0, 0, 0, 0, 0);
        pieces(x, 2, 0, 1, 2, 3, 4);
        pieces(x, 1, 1, 1, 2, 3, 4);
        pieces(x, 2, 1, 0, 0, 0, 0);
        pieces(x, 0, 1, 5, 10004, 5, 10004);
        x = Check.told(TWO + "flow i j k=has;flow house j k=1;");
        x.months(1, 1);
        due("of nothing", x.has(2, 0, -1), 0);
        due("of nothing", x.has(0, 0, -1), 0);
    }

    private static void flowsAsWorn() {
        CoinBoats x = Check.told(TWO + "flow i j k=5;flow house i l=3;");
        lay(x, 1, 0, 4, 3, 2, 1);
        lay(x, 2, 0, 10, 10, 10, 10);
        lay(x, 0, 1, 1, 1, 1, 0);
        x.months(1, 1);
        pieces(x, 1, 0, 4, 1, 0, 0);
        pieces(x, 2, 0, 10, 12, 12, 11);
        pieces(x, 1, 1, 1, 1, 1, 0);
        x.months(1, 1);
        pieces(x, 1, 0, 0, 0, 0, 0);
        pieces(x, 2, 0, 14, 13, 12, 11);
    }

    private static void wearsNotInTheHouse() {
        CoinBoats x = Check.told(TWO + "island m 1 1;island n 1 1;wear k=2;");
        for (int place = 0; place <= 4; place++) {
            lay(x, place, 0, 5, 0, 0, 0);
            lay(x, place, 1, 5, 0, 0, 0);
        }
        x.months(1, 1);
        pieces(x, 0, 0, 5, 0, 0, 0);
        for (int place = 1; place <= 4; place++) {
            pieces(x, place, 0, 3, 2, 0, 0);
            pieces(x, place, 1, 5, 0, 0, 0);
        }
    }

    private static void wearsHeld() {
        // So many at once: none is worn twice in a month, WORN 3 stays.
        CoinBoats x = Check.told(TWO + "wear k=9999*9999;wear l=has-2;");
        lay(x, 1, 0, 1, 2, 4, 8);
        lay(x, 1, 1, 1, 2, 4, 8);
        x.months(1, 1);
        pieces(x, 1, 0, 0, 1, 2, 12);
        pieces(x, 1, 1, 1, 2, 2, 10);
        x.months(1, 3);
        pieces(x, 1, 0, 0, 0, 0, 15);
        x = Check.told(TWO + "wear k=0-1;wear l=1+worn;");
        lay(x, 1, 0, 3, 3, 3, 3);
        lay(x, 1, 1, 4, 4, 4, 4);
        lay(x, 2, 1, 0, 1, 1, 0);
        x.months(1, 1);
        pieces(x, 1, 0, 3, 3, 3, 3);
        pieces(x, 1, 1, 3, 3, 3, 7);
        pieces(x, 2, 1, 0, 0, 1, 1);
        x = Check.told(TWO + "wear k=[month==1]*has/(2-worn/2);");
        lay(x, 1, 0, 9, 8, 7, 0);
        x.months(1, 1);
        pieces(x, 1, 0, 9, 8, 7, 0);
        x.months(1, 1);
        pieces(x, 1, 0, 5, 8, 4, 7);
    }

    private static void lossesHeld() {
        CoinBoats x = Check.told(TWO + "lost i k=3;lost i l=has+1;lost j k=0-1;lost j l=[month==1]*(has-1);");
        for (int place = 0; place <= 2; place++) {
            lay(x, place, 0, 2, 2, 2, 2);
            lay(x, place, 1, 2, 2, 2, 2);
        }
        x.months(1, 1);
        pieces(x, 1, 0, 2, 2, 1, 0);
        pieces(x, 1, 1, 0, 0, 0, 0);
        pieces(x, 2, 0, 2, 2, 2, 2);
        pieces(x, 2, 1, 2, 2, 2, 2);
        x.months(1, 1);
        pieces(x, 1, 0, 2, 0, 0, 0);
        pieces(x, 2, 1, 1, 0, 0, 0);
        x.months(1, 2);
        pieces(x, 1, 0, 0, 0, 0, 0);
        pieces(x, 0, 0, 2, 2, 2, 2);
        pieces(x, 0, 1, 2, 2, 2, 2);
    }

    private static void wantsHeld() {
        CoinBoats x = Check.told(TWO + "want i k=9999;want i l=9999+1;want j k=0-5;want j l=9999*9999;");
        x.lay(2, 1, 0, 9);
        due("months(1, 1)", x.months(1, 1), 9999 + 9999 + 9990);
        due("9999", x.lacks(1, 0), 9999);
        due("above 9999", x.lacks(1, 1), 9999);
        due("below 0", x.lacks(2, 0), 0);
        due("above 9999, less what is there", x.lacks(2, 1), 9990);
    }

    private static void lacksNoLess() {
        CoinBoats x = Check.told(TWO + "want i k=5;want i l=5;want j k=5;want j l=5;");
        lay(x, 1, 0, 1, 1, 1, 2);
        lay(x, 1, 1, 4, 0, 0, 0);
        lay(x, 2, 0, 3, 0, 3, 0);
        lay(x, 0, 1, 9, 9, 9, 9);
        due("months(1, 1)", x.months(1, 1), 6);
        due("just all", x.lacks(1, 0), 0);
        due("one less", x.lacks(1, 1), 1);
        due("one more", x.lacks(2, 0), 0);
        due("none", x.lacks(2, 1), 5);
        due("HARM 4 and 9", x.spent(1), 4 + 45);
        due("what is there is not taken", x.has(2, 0, -1), 6);
    }

    private static void boatsCost() {
        CoinBoats x = Check.told(TWO + "boat i 0 9 5;boat j 0 9 70;boat i 1 9 300;");
        x.lay(0, 0, 0, 9);
        x.send(0, 1, 0, 1, false);
        x.send(0, 1, 0, 1, false);
        x.send(0, 1, 0, 2, true);
        x.send(0, 2, 0, 99, false);
        x.send(1, 1, 1, 1, false);
        x.months(1, 1);
        due("once, of three that are DONE; none for one that is not", x.spent(2), 5);
        x.months(1, 11);
        due("none for one that is not DONE", x.spent(2), 5);
        x.send(12, 1, 0, 1, false);
        x.months(1, 1);
        due("once more in another year", x.spent(2), 10);
        due("spent(0)", x.spent(0), 10);
    }

    private static void struckCosts() {
        CoinBoats x = Check.told("kind k 1 1 0;kind l 1 1 99;kind m 1 1 1;");
        x.strike(0, 9999);
        due("NEW 0", x.spent(3), 0);
        x.strike(1, 9999);
        due("NEW 99", x.spent(3), 989901);
        x.strike(2, 1);
        due("NEW 1", x.spent(3), 989902);
        x.lay(0, 1, 0, 9999);
        x.burn(1, 0);
        due("what is laid or burnt costs nothing", x.spent(3), 989902);
        due("spent(0)", x.spent(0), 989902);
    }

    private static void spentSinceTheText() {
        CoinBoats x = Check.told("kind k 1 1 0;kind l 1 1 0;kind m 1 1 0;island a 1 99;island b 1 99;island c 1 99;island d 1 99;"
            + "want a k=9999;want b k=9999;want c k=9999;want d k=9999;want a l=9999;want b l=9999;want c l=9999;want d l=9999;"
            + "want a m=9999;want b m=9999;want c m=9999;want d m=9999;");
        for (int i = 1; i <= 10; i++) {
            due("months(0, 24)", x.months(0, 24), 24 * 12 * 9999);
            due("spent(0)", x.spent(0), 24L * i * 12 * 9999 * 99);
        }
        due("beyond 32 bits", x.spent(1), 2850914880L);
        due("a text", Check.tell(x, "kind k 1 1 5;"), 0);
        due("since the text", x.spent(0), 0);
        x.strike(0, 3);
        due("since the text", x.spent(0), 15);
        due("a text with a FAULT", Check.tell(x, "kind"), 1);
        due("since the text ahead of it", x.spent(0), 15);
    }

    /** The LOT by numbers of 64 bits, the upper ones cut off. */
    private static int lot(int n, int seed, int which) {
        long bits = 0xffffffffL;
        long h = seed & bits;
        for (long it : new long[] {15, which}) {
            h = (h ^ it) * 1103515245L + 12345 & bits;
            h = h ^ h >> 15;
        }
        return (int) ((h >> 1) % n);
    }

    private static void lots() {
        due("LOT 5 of 0, 1000", lot(5, 0, 1000), 2);
        due("LOT 10 of MIN, 40 * 239", lot(10, Integer.MIN_VALUE, 9560), 0);
        for (int i = 0; i < 60; i++) {
            int seed = i * 1640531527 - i % 7 * 1000000;
            CoinBoats x = Check.told(TWO + "flow house i k=noise;boat j 0 999 1 fails 1;boat j 1 999 1 fails 5;boat j 2 999 1 fails 9;");
            x.lay(0, 0, 0, 9999);
            x.lay(0, 1, 0, 9999);
            int sum = 0;
            for (int t = 0; t < 3; t++) {
                x.send(t, 2, 1, 1, false);
                x.months(seed, 1);
                sum += lot(5, seed, 1000 + 40 * t);
                due("noise of SEED " + seed, x.has(1, 0, -1), sum);
                due("BOAT " + t + " of SEED " + seed, x.done(t), lot(10, seed, 41 * t) < 1 + 4 * t ? 2 : 0);
            }
        }
    }

    private static void judgedNotGoneBy() {
        CoinBoats x = Check.told(TWO + "boat i 0 9 1;");
        x.send(0, 1, 0, 1, false);
        x.send(1, 1, 0, 1, false);
        due("of TIME 0", x.judge(), 0);
        due("no pieces", x.why(), 4);
        x.months(1, 1);
        due("TIME 0 is gone by", x.judge(), 1);
        due("no BOAT", x.why(), 1);
        x.months(1, 1);
        due("TIME 1 is gone by", x.judge(), -2);
        due("why()", x.why(), 0);
        // The last TIME, 239, is of month 11.
        x = Check.told(TWO + "boat i 11 9 1;");
        x.send(239, 1, 0, 1, false);
        due("of TIME 239", x.judge(), 0);
        pass(x, 1, 239);
        due("of TIME 239, now", x.judge(), 0);
        pass(x, 1, 240);
        due("all is gone by", x.judge(), -2);
        due("why()", x.why(), 0);
    }

    private static void judgedTimeByTime() {
        CoinBoats x = Check.told(TWO + "boat i 0 9 1;boat i 1 9 1;boat i 2 9 1;");
        x.lay(0, 1, 0, 9);
        x.send(2, 1, 1, 3, true);
        x.send(1, 1, 1, 9, true);
        x.send(0, 1, 1, 9, false);
        due("TIME 0, then 1, then 2", x.judge(), 0);
        due("nothing is there at TIME 2", x.why(), 4);
        x.send(1, 1, 1, 1, false);
        due("TIME 1 is ahead of TIME 2, by ROOM", x.judge(), 3);
        due("why()", x.why(), 3);
        x = Check.told(TWO + "boat i 0 9 1;boat i 1 9 1;");
        x.lay(0, 1, 0, 9);
        x.send(12, 1, 1, 9, false);
        x.send(13, 1, 1, 9, true);
        x.send(0, 1, 1, 9, false);
        due("what is DONE ahead is gone", x.judge(), 0);
        x.send(1, 1, 1, 9, true);
        due("BACK ahead of it", x.judge(), -2);
    }

    private static void judgedAlone() {
        CoinBoats x = Check.told(TWO + "flow house j l=9;lost i l=9;wear l=9;flow i house l=9;boat i 0 9 1 fails 10;"
            + "boat i 1 9 1 fails 10;");
        x.lay(0, 1, 0, 9);
        x.send(0, 1, 1, 9, false);
        x.send(1, 1, 1, 9, true);
        due("judge()", x.judge(), -2);
        due("why()", x.why(), 0);
        x.send(13, 1, 1, 1, true);
        due("a FLOW does not bring it", x.judge(), 2);
        due("why()", x.why(), 4);
        String ahead = Picture.of(x);
        x.judge();
        x.why();
        CHECK.due("judging changes nothing", Picture.of(x), ahead);
        x.months(1, 1);
        due("as it happens", x.done(0), 2);
    }

    private static void judgedFirst() {
        CoinBoats x = Check.told(TWO + "boat i 0 9 1;boat i 1 9 1;boat j 0 9 1;");
        x.lay(0, 1, 0, 9);
        x.send(0, 1, 1, 5, false);
        x.send(0, 2, 1, 5, false);
        due("4 are left", x.judge(), 1);
        x.send(0, 1, 1, 5, false);
        due("still the first", x.judge(), 1);
        x.lay(0, 1, 0, 1);
        due("then the next", x.judge(), 2);
        due("ROOM", x.why(), 3);
        x = Check.told(TWO + "boat i 0 9 1;");
        for (int n = 0; n < 39; n++) {
            x.send(0, 1, 1, 1, true);
        }
        x.lay(1, 1, 0, 9);
        due("nine of 39", x.judge(), 9);
        x.lay(1, 1, 0, 99);
        due("nine by ROOM", x.judge(), 9);
        due("why()", x.why(), 3);
    }

    private static void judgedNumbers() {
        CoinBoats x = Check.told(TWO + "boat i 0 40 1;boat i 1 40 1;");
        for (int n = 0; n < 39; n++) {
            x.send(0, 1, 1, 1, true);
        }
        x.lay(1, 1, 0, 39);
        due("all of 39", x.judge(), -2);
        x.send(1, 1, 1, 1, true);
        due("the fortieth", x.judge(), 39);
        x.burn(1, 0);
        x.months(1, 1);
        due("the fortieth, now", x.judge(), 39);
        x = Check.told(TWO);
        x.send(239, 1, 0, 1, false);
        due("the first of one", x.judge(), 0);
    }

    private static void noReason() {
        CoinBoats x = Check.told(TWO + "boat i 0 9 1;boat i 11 9 1;");
        due("no SENDING", x.why(), 0);
        x.lay(1, 1, 3, 9);
        x.send(0, 1, 1, 9, true);
        due("just so many, just ROOM", x.why(), 0);
        x.send(239, 1, 1, 9, false);
        due("those that came are there at TIME 239", x.why(), 0);
        x.send(239, 1, 0, 1, false);
        due("one more", x.why(), 3);
        pass(x, 1, 240);
        due("all is gone by", x.why(), 0);
    }

    private static void sendAtTimes() {
        CoinBoats x = Check.told(TWO);
        due("now, at TIME 0", x.send(0, 1, 0, 1, false), 0);
        due("TIME 239", x.send(239, 2, 1, 9999, true), 1);
        due("TIME 240", x.send(240, 1, 0, 1, false), -1);
        due("TIME -1", x.send(-1, 1, 0, 1, false), -1);
        due("the least", x.send(Integer.MIN_VALUE, 1, 0, 1, false), -1);
        due("the most", x.send(Integer.MAX_VALUE, 1, 0, 1, false), -1);
        x.months(1, 5);
        due("gone by", x.send(4, 1, 0, 1, false), -1);
        due("now", x.send(5, 1, 0, 1, false), 2);
        due("later", x.send(6, 1, 0, 1, false), 3);
        pass(x, 1, 239);
        due("TIME 238, gone by", x.send(238, 1, 0, 1, false), -1);
        due("TIME 239, now", x.send(239, 1, 0, 1, false), 4);
        pass(x, 1, 240);
        due("TIME 239, gone by", x.send(239, 1, 0, 1, false), -1);
        due("TIME 240", x.send(240, 1, 0, 1, false), -1);
        due("count(5)", x.count(5), 5);
    }

    private static void sendForty() {
        CoinBoats x = Check.told(TWO + "boat i 0 9 1;boat j 3 9 1;");
        x.lay(0, 0, 0, 1);
        for (int n = 0; n < 40; n++) {
            due("send", x.send(n < 20 ? 0 : 3, 1 + n / 20, 0, 1, false), n);
        }
        String ahead = Picture.of(x);
        due("a 41st", x.send(0, 1, 0, 1, false), -1);
        due("a 41st BACK", x.send(239, 2, 1, 9999, true), -1);
        CHECK.due("nothing happens", Picture.of(x), ahead);
        x.months(1, 4);
        due("those of the past are there", x.send(5, 1, 0, 1, false), -1);
        due("done(0)", x.done(0), 0);
        due("done(39)", x.done(39), 4);
        due("a text", Check.tell(x, TWO), 0);
        due("then there is none", x.send(0, 1, 0, 1, false), 0);
    }

    private static void noSuchSending() {
        CoinBoats x = Check.told(TWO + "boat i 0 9 1;");
        x.lay(0, 0, 0, 5);
        x.send(0, 1, 0, 1, false);
        String ahead = Picture.of(x);
        for (int far : FAR) {
            due("send(0, " + far + ", 0, 1)", x.send(0, far, 0, 1, false), -1);
            due("send(0, 1, " + far + ", 1)", x.send(0, 1, far, 1, true), -1);
        }
        due("the house", x.send(0, 0, 0, 1, false), -1);
        due("the house, BACK", x.send(0, 0, 0, 1, true), -1);
        due("PLACE -1", x.send(0, -1, 0, 1, false), -1);
        due("PLACE 3", x.send(0, 3, 0, 1, false), -1);
        due("KIND -1", x.send(0, 1, -1, 1, false), -1);
        due("KIND 2", x.send(0, 1, 2, 1, false), -1);
        for (int n : new int[] {0, -1, 10000, Integer.MIN_VALUE, Integer.MAX_VALUE}) {
            due("n " + n, x.send(0, 1, 0, n, false), -1);
            due("n " + n + ", BACK", x.send(0, 1, 0, n, true), -1);
        }
        CHECK.due("nothing happens", Picture.of(x), ahead);
        due("n 1", x.send(0, 2, 1, 1, true), 1);
        due("n 9999", x.send(0, 2, 1, 9999, true), 2);
    }

    private static void notItsTime() {
        CoinBoats x = Check.told(TWO + "boat i 0 9 1;");
        x.lay(0, 1, 0, 9);
        x.send(0, 1, 1, 1, false);
        x.send(1, 1, 1, 1, false);
        x.send(239, 1, 1, 1, false);
        due("TIME 0, now", x.done(0), -2);
        x.months(1, 1);
        due("TIME 0 is gone by", x.done(0), 0);
        due("TIME 1, now", x.done(1), -2);
        x.months(1, 1);
        due("TIME 1 is gone by", x.done(1), 1);
        pass(x, 1, 239);
        due("TIME 239, now", x.done(2), -2);
        pass(x, 1, 240);
        due("TIME 239 is gone by", x.done(2), 1);
    }

    private static void noSuchDone() {
        CoinBoats x = Check.told(TWO);
        due("done(0) of none", x.done(0), -1);
        x.send(0, 1, 0, 1, false);
        due("done(0) of one", x.done(0), -2);
        due("done(1) of one", x.done(1), -1);
        due("done(-1)", x.done(-1), -1);
        for (int far : FAR) {
            due("done(" + far + ")", x.done(far), -1);
        }
        for (int n = 1; n < 40; n++) {
            x.send(0, 1, 0, 1, false);
        }
        due("done(39) of forty", x.done(39), -2);
        due("done(40) of forty", x.done(40), -1);
    }

    private static void allDone() {
        CoinBoats x = Check.told(TWO + "boat i 0 9 1;");
        due("no SENDING", x.judge(), -2);
        due("no SENDING", x.why(), 0);
        x.lay(0, 1, 0, 9);
        x.send(0, 1, 1, 9, false);
        due("all there, ROOM is full", x.judge(), -2);
        due("all there, ROOM is full", x.why(), 0);
        x.send(12, 1, 1, 9, true);
        due("BACK", x.judge(), -2);
        x.send(12, 1, 1, 1, true);
        due("one more", x.judge(), 2);
        due("one more", x.why(), 3);
    }

    private static void why() {
        CoinBoats x = Check.told(TWO + "boat i 0 9 1 fails 10;");
        x.send(0, 1, 1, 9, false);
        due("no pieces, a BOAT that FAILS", x.why(), 4);
        x.lay(0, 1, 0, 99);
        due("all there, a BOAT that FAILS", x.why(), 0);
        x.send(0, 1, 1, 1, false);
        due("no ROOM", x.why(), 3);
        x = Check.told(TWO + "boat i 0 9 1;");
        x.send(1, 1, 1, 9999, false);
        due("no BOAT, no ROOM, no pieces", x.why(), 1);
        x.send(0, 1, 1, 9999, false);
        due("no ROOM, no pieces", x.why(), 3);
    }

    private static void monthsGoBy() {
        CoinBoats x = Check.told(TWO + "want i k=month+1;want j l=100;");
        x.lay(2, 1, 0, 90);
        due("months(1, 1)", x.months(1, 1), 11);
        due("months(1, 2)", x.months(1, 2), 2 + 3 + 20);
        due("months(1, 24)", x.months(1, 24), 2 * 78 + 240);
        due("count(7)", x.count(7), 27);
        x = new CoinBoats();
        due("months of nothing told", x.months(1, 24), 0);
        due("count(7)", x.count(7), 24);
        // 24 months of a SEED are 24 times one month of it.
        x = Check.told(TWO + "flow house i k=noise;want i k=20;");
        CoinBoats y = Check.told(TWO + "flow house i k=noise;want i k=20;");
        x.lay(0, 0, 0, 99);
        y.lay(0, 0, 0, 99);
        int sum = 0;
        for (int i = 0; i < 24; i++) {
            sum += y.months(-5, 1);
        }
        due("months(-5, 24)", x.months(-5, 24), sum);
        due("has(1, 0, -1)", x.has(1, 0, -1), y.has(1, 0, -1));
    }

    private static void noSuchMonths() {
        CoinBoats x = Check.told(TWO + "want i k=5;flow house i k=1;boat i 0 9 1;");
        x.lay(0, 0, 0, 9);
        x.send(0, 1, 0, 1, false);
        String ahead = Picture.of(x);
        for (int k : new int[] {0, -1, -24, 25, 26, 240, 241, Integer.MIN_VALUE, Integer.MAX_VALUE}) {
            due("months(1, " + k + ")", x.months(1, k), -1);
        }
        CHECK.due("nothing happens", Picture.of(x), ahead);
        due("months(1, 24)", x.months(1, 24) >= 0 ? 1 : 0, 1);
        due("months(1, 25)", x.months(1, 25), -1);
        due("count(7)", x.count(7), 24);
    }

    private static void lastTime() {
        CoinBoats x = Check.told(TWO + "want i k=5;flow house i k=1;");
        x.lay(0, 0, 0, 999);
        pass(x, 1, 217);
        String ahead = Picture.of(x);
        due("TIME 241", x.months(1, 24), -1);
        CHECK.due("nothing happens", Picture.of(x), ahead);
        due("TIME 240", x.months(1, 23), 0);
        due("count(7)", x.count(7), 240);
        ahead = Picture.of(x);
        due("TIME 241", x.months(1, 1), -1);
        due("TIME 264", x.months(1, 24), -1);
        due("k 0", x.months(1, 0), -1);
        CHECK.due("nothing happens", Picture.of(x), ahead);
        x = Check.told(TWO);
        pass(x, 1, 239);
        due("TIME 241", x.months(1, 2), -1);
        due("TIME 240", x.months(1, 1), 0);
    }

    private static void lackedSinceTheText() {
        CoinBoats x = Check.told(TWO + "want i k=9999;want j l=3;");
        due("at first", x.lacks(1, 0), 0);
        for (int i = 1; i <= 10; i++) {
            x.months(1, 24);
            due("lacks(1, 0)", x.lacks(1, 0), 24 * i * 9999);
        }
        due("lacks(2, 1)", x.lacks(2, 1), 720);
        due("no WANT", x.lacks(1, 1), 0);
        due("no WANT", x.lacks(2, 0), 0);
        due("a text with a FAULT", Check.tell(x, TWO + ";"), 1);
        due("lacks(2, 1)", x.lacks(2, 1), 720);
        due("a text", Check.tell(x, TWO), 0);
        due("since the text", x.lacks(2, 1), 0);
        due("since the text", x.lacks(1, 0), 0);
    }

    private static void noSuchLacks() {
        CoinBoats x = Check.told(TWO + "want i k=5;want j l=5;");
        x.months(1, 1);
        for (int far : FAR) {
            due("lacks(" + far + ", 0)", x.lacks(far, 0), -1);
            due("lacks(1, " + far + ")", x.lacks(1, far), -1);
        }
        due("the house", x.lacks(0, 0), -1);
        due("lacks(-1, 0)", x.lacks(-1, 0), -1);
        due("lacks(3, 0)", x.lacks(3, 0), -1);
        due("lacks(1, -1)", x.lacks(1, -1), -1);
        due("lacks(1, 2)", x.lacks(1, 2), -1);
        due("lacks(2, 1)", x.lacks(2, 1), 5);
    }

    private static void spentOfAll() {
        CoinBoats x = Check.told(TWO + "want i k=6;boat i 0 9 100;");
        x.strike(0, 1);
        x.send(0, 1, 0, 1, false);
        x.months(1, 1);
        due("all", x.spent(0), 20 + 100 + 3);
        due("HARM", x.spent(1), 20);
        due("BOATS", x.spent(2), 100);
        due("NEW", x.spent(3), 3);
    }

    private static void noSuchSpent() {
        CoinBoats x = Check.told(TWO);
        x.strike(0, 1);
        for (int what : new int[] {-1, -2, 4, 5, Integer.MIN_VALUE, Integer.MAX_VALUE}) {
            due("spent(" + what + ")", x.spent(what), -1);
        }
        due("spent(3)", x.spent(3), 3);
    }
}
