/** Boundary cases of a text's FAULTS (term I, promises 4 and 5), and of what a text does to the one ahead. */
public final class BoundaryFaultsTest {
    private static final Check CHECK = new Check();
    // Both of 13 bytes; of 6 and 5 TOKENS.
    private static final String K = "kind k 1 1 1;";
    private static final String I = "island i 1 1;";
    private static final String[] RULES = {"want i k=1;", "lost i k=1;", "flow i house k=1;", "wear k=1;", "boat i # 1 1;"};

    public static void main(String[] args) {
        Sentences s = new Sentences(CHECK);
        sentences(s);
        s.run();
    }

    static void sentences(Sentences s) {
        s.hold("Term I", "FAULTS of a text, the first by its place (a byte; the text's end: its length),", BoundaryFaultsTest::firstByPlace);
        s.hold("Term I", "of one place the least:", BoundaryFaultsTest::leastOfOnePlace);
        s.hold("Term I", "1 SYNTAX: a TOKEN, or what is none, with which no text goes on.", BoundaryFaultsTest::syntax);
        s.hold("Term I", "2 ROOM: a 401st TOKEN;", BoundaryFaultsTest::tokens);
        s.hold("Term I", "a 7th kind, a 5th island,", BoundaryFaultsTest::kindsAndIslands);
        s.hold("Term I", "a 13th want, lost, flow, wear or boat", BoundaryFaultsTest::rules);
        s.hold("Term I", "(each by itself; at its first TOKEN);", BoundaryFaultsTest::eachByItself);
        s.hold("Term I", "a 7th ( or [ within one another (at it).", BoundaryFaultsTest::withinOneAnother);
        s.hold("Term I", "If there is none, likewise:", BoundaryFaultsTest::likewise);
        s.hold("Term I", "3 TWICE: a NAME told already (of kinds, islands);", BoundaryFaultsTest::twice);
        s.hold("Term I", "a boat of an ISLAND and a MONTH told already (at the MONTH).", BoundaryFaultsTest::twoBoats);
        s.hold("Term I", "4 NAME: no ISLAND, no KIND told ahead (in the order of the grammar; ISLANDS first).",
            BoundaryFaultsTest::nameless);
        wrong(s);
        inPlace(s);
    }

    private static void wrong(Sentences s) {
        s.hold("Term I", "5 WRONG (at the INT): a WORTH not 1 .. 500,", () -> ints("kind k # 1 1;", 1, 500));
        s.hold("Term I", "a WEIGHT not 1 .. 20,", () -> ints("kind k 1 # 1;", 1, 20));
        s.hold("Term I", "NEW above 99,", () -> ints("kind k 1 1 #;", 0, 99));
        s.hold("Term I", "SAFE above 60,", () -> ints("island i # 1;", 0, 60));
        s.hold("Term I", "HARM above 99,", () -> ints("island i 1 #;", 0, 99));
        s.hold("Term I", "a MONTH above 11,", () -> ints(I + "boat i # 1 1;", 0, 11));
        s.hold("Term I", "ROOM not 1 .. 999,", () -> ints(I + "boat i 1 # 1;", 1, 999));
        s.hold("Term I", "COST above 999,", () -> ints(I + "boat i 1 1 #;", 0, 999));
        s.hold("Term I", "FAILS above 10;", () -> ints(I + "boat i 1 1 1 fails #;", 0, 10));
        s.hold("Term I", "a flow from a PLACE to itself (at the second one).", BoundaryFaultsTest::flowToItself);
    }

    private static void inPlace(Sentences s) {
        s.hold("Term I", "A text with a FAULT changes nothing but the tape;", BoundaryFaultsTest::nothingChanges);
        s.hold("Term I", "else it is in place of the one ahead:", BoundaryFaultsTest::inPlaceOfTheOneAhead);
        s.hold("Term I", "there are no pieces,", BoundaryFaultsTest::noPieces);
        s.hold("Term I", "no SENDINGS,", BoundaryFaultsTest::noSendings);
        s.hold("Term I", "no BOOKS then,", BoundaryFaultsTest::noBooks);
        s.hold("Term I", "it is MONTH 0,", BoundaryFaultsTest::monthNone);
        s.hold("Term I", "SLOTS hold nothing.", BoundaryFaultsTest::slotsHoldNothing);
    }

    private static void due(String call, long got, long want) {
        CHECK.due(call, got, want);
    }

    private static void good(String text) {
        CHECK.good(text);
    }

    private static void bad(int fault, String marked) {
        CHECK.fault(fault, marked);
    }

    /** So many of one that are told apart by a letter in place of #. */
    private static String many(String told, int n) {
        StringBuilder text = new StringBuilder();
        for (int i = 0; i < n; i++) {
            text.append(told.replace('#', (char) ('a' + i)));
        }
        return text.toString();
    }

    private static String kinds(int n) {
        return many("kind # 1 1 1;", n);
    }

    /** Islands named i, j, .. */
    private static String islands(int n) {
        StringBuilder text = new StringBuilder();
        for (int i = 0; i < n; i++) {
            text.append("island ").append((char) ('i' + i)).append(" 1 1;");
        }
        return text.toString();
    }

    private static String boats(int n) {
        StringBuilder text = new StringBuilder();
        for (int i = 0; i < n; i++) {
            text.append("boat i ").append(i).append(" 1 1;");
        }
        return text.toString();
    }

    /** So many rules of one sort. */
    private static String rules(int sort, int n) {
        return RULES[sort].contains("#") ? boats(n) : RULES[sort].repeat(n);
    }

    private static void firstByPlace() {
        // The text's end.
        bad(1, "kind^");
        bad(1, "kind   \n^");
        bad(1, "kind k 1 1 1^");
        bad(1, K + "  wear k=(1  ^");
        // A TOKEN behind blanks: its own byte.
        bad(1, "   ^;");
        bad(1, "kind k   ^;");
        // Two of one number, and of two.
        bad(1, K + "^;;");
        bad(1, "kind ^; kind k 0 1 1; #");
        bad(2, K + "wear k=((((((^(1;;");
        bad(1, K + "wear k=^; wear k=(((((((1)))))));");
        bad(5, "kind k 1 ^0 100;" + K);
        bad(3, K + "kind ^k 0 0 100;");
        bad(3, K + I + "boat i 1 1 1;boat i ^1 0 1;want j k=1;");
        bad(4, "want ^i k=1;" + K + K);
        bad(4, "want ^i k=1;kind k 0 1 1;");
        bad(5, "kind k ^0 1 1;want i k=1;");
        bad(5, "kind k ^0 1 1;kind k 1 1 1;");
        bad(2, kinds(6) + "^kind g 1 1 1;#");
        bad(1, "^#" + kinds(7));
    }

    private static void leastOfOnePlace() {
        // A 401st TOKEN, a 7th kind, a 7th ( with which no text goes on.
        String text = tokens(400);
        bad(1, text + "^;");
        bad(1, text + "^k");
        bad(1, text + "^#");
        bad(1, text + "^abcdefghi");
        bad(2, text + "^kind");
        bad(1, tokens(399) + "wear ^1");
        bad(1, tokens(399) + "wear ^wear");
        bad(1, tokens(399) + "wear^");
        bad(1, tokens(398) + "wear k^;");
        bad(1, withoutLast(text) + "+^;");
        bad(1, kinds(6) + "wear a=1 ^kind g 1 1 1;");
        bad(1, kinds(6) + "wear ^kind=1;");
        bad(1, K + "wear k=((((((1^(1)))))));");
        bad(1, K + "wear k=((((((1^[1<1]))))));");
        // TWICE ahead of WRONG is of another place; NAME ahead of WRONG likewise: the places decide.
        bad(4, I + "flow ^j j k=1;");
        bad(5, I + "flow i ^i k=1;");
    }

    private static void syntax() {
        bad(1, "^k");
        bad(1, "^#");
        bad(1, K + "^)");
        bad(1, K + "wear k=1^)");
        bad(1, K + "wear k=1 ^has;");
        bad(1, K + "wear ^==1;");
        bad(1, K + "wear k^\u00801;");
        // What no KIND or ISLAND told by it, or one told twice, is no matter of SYNTAX.
        bad(4, "wear ^k=1;");
        bad(3, K + "kind ^k 1 1 1;");
    }

    /** A text of so many TOKENS: 11 of a KIND and an ISLAND, 5 of a wear if the number is even, the others of a want. */
    private static String tokens(int n) {
        int left = n - 11 - (n % 2 == 0 ? 5 : 0);
        return K + I + (n % 2 == 0 ? "wear k=1;" : "") + "want i k=" + "1+".repeat((left - 6) / 2) + "1;";
    }

    private static String withoutLast(String text) {
        return text.substring(0, text.length() - 1);
    }

    private static void tokens() {
        for (int n = 397; n <= 400; n++) {
            good(tokens(n));
        }
        good(tokens(400) + "  \n");
        bad(2, tokens(400) + "^wear k=1;");
        bad(2, tokens(400) + "\n\t ^kind");
        bad(2, tokens(399) + "wear ^k=1;");
        bad(2, tokens(398) + "wear k^=1;");
        bad(2, tokens(397) + "wear k=^1;");
        bad(2, withoutLast(tokens(400)) + "+^1;");
        bad(2, withoutLast(tokens(399)) + "+1^;");
        bad(2, withoutLast(tokens(400)) + "+^(1);");
        bad(2, withoutLast(tokens(400)) + "+^has;");
        bad(2, withoutLast(tokens(399)) + "*1^+1;");
        // The text ends with the 400th TOKEN.
        bad(1, withoutLast(tokens(400)) + "+^");
        bad(1, tokens(399) + "wear^");
    }

    private static void kindsAndIslands() {
        for (int n = 0; n <= 6; n++) {
            CoinBoats x = Check.told(kinds(n));
            due("kinds", x.count(0), n);
        }
        bad(2, kinds(6) + "^kind g 1 1 1;");
        bad(2, kinds(6) + "^kind a 1 1 1;");
        bad(2, kinds(6) + islands(4) + "^kind g 1 1 1;");
        for (int n = 0; n <= 4; n++) {
            CoinBoats x = Check.told(islands(n));
            due("islands", x.count(1), n);
        }
        bad(2, islands(4) + "^island m 1 1;");
        bad(2, islands(4) + kinds(6) + "^island m 1 1;");
        good(islands(4) + kinds(6));
    }

    private static void rules() {
        int[] what = {2, 10, 3, 11, 4};
        for (int sort = 0; sort < RULES.length; sort++) {
            CoinBoats x = Check.told(K + I + rules(sort, 12));
            due("twelve of " + RULES[sort], x.count(what[sort]), 12);
            bad(2, K + I + rules(sort, 12) + "^" + RULES[sort].replace("#", "0"));
        }
        // Those of two islands and of several KINDS are counted as one sort.
        String two = "kind a 1 1 1;kind b 1 1 1;" + islands(2);
        for (String word : new String[] {"want", "lost"}) {
            String four = word + " i a=1;" + word + " i b=1;" + word + " j a=1;" + word + " j b=1;";
            good(two + four.repeat(3));
            bad(2, two + four.repeat(3) + "^" + word + " j b=1;");
        }
        good(two + "flow i j a=1;flow house j b=1;".repeat(6));
        bad(2, two + "flow i j a=1;flow house j b=1;".repeat(6) + "^flow j i a=1;");
        bad(2, two + "wear a=1;wear b=1;".repeat(6) + "^wear a=1;");
        bad(2, two + boats(11) + "boat j 3 1 1;^boat j 4 1 1;");
    }

    private static void eachByItself() {
        String all = K + I + rules(0, 12) + rules(1, 12) + rules(2, 12) + rules(3, 12) + rules(4, 12);
        CoinBoats x = Check.told(all);
        int[] what = {2, 10, 3, 11, 4};
        for (int sort = 0; sort < RULES.length; sort++) {
            due("count(" + what[sort] + ")", x.count(what[sort]), 12);
            bad(2, all + "^" + RULES[sort].replace("#", "0"));
        }
        // At its first TOKEN, also if nothing more of it stands there, or what no text goes on with.
        for (int sort = 0; sort < RULES.length; sort++) {
            String word = RULES[sort].substring(0, 4);
            bad(2, K + I + rules(sort, 12) + " ^" + word);
            bad(2, K + I + rules(sort, 12) + "^" + word + " " + word);
            bad(2, K + I + rules(sort, 12) + "^" + word + "#");
            bad(1, K + I + rules(sort, 12) + "^" + word + "s");
        }
        bad(2, kinds(6) + "^kind");
        bad(2, kinds(6) + "^kind kind");
        bad(2, islands(4) + "^island");
        bad(2, islands(4) + "^island 1");
    }

    private static void withinOneAnother() {
        good(K + "wear k=((((((1))))));");
        bad(2, K + "wear k=((((((^(1)))))));");
        good(K + "wear k=[[[[[[1<1]<1]<1]<1]<1]<1];");
        bad(2, K + "wear k=[[[[[[^[1<1]<1]<1]<1]<1]<1]<1];");
        bad(2, K + "wear k=[([([(^[1<1])<1])<1])<1];");
        bad(2, K + "wear k=([([([^(1)<1])<1])<1]);");
        // On the right of < too; those that were closed do not count.
        good(K + "wear k=[1<[1<[1<[1<[1<[1<1]]]]]];");
        bad(2, K + "wear k=[1<[1<[1<[1<[1<[1<^[1<1]]]]]]];");
        good(K + "wear k=((((((1))))))*((((((1))))))+[(((((1)))))<(((((1)))))];");
        bad(2, K + "wear k=[(((((^(1))))))<1];");
        CoinBoats x = Check.told(K + I + "want i k=1+2*(1+2*(1+2*(1+2*(1+2*(1+2*(3))))));");
        due("six within one another", x.want(1, 0, 0), 255);
        x = Check.told(K + I + "want i k=1+2*[0<1+2*[0<1+2*[0<1+2*[0<1+2*[0<1+2*[0<1+2*3]]]]]];");
        due("six within one another", x.want(1, 0, 0), 3);
        bad(2, K + "wear k=[1<(((((^(1))))))];");
    }

    private static void likewise() {
        // SYNTAX and ROOM behind the others all the same.
        bad(1, K + K + "^#");
        bad(1, "want i k=1;^;");
        bad(1, "kind k 0 1 1^");
        bad(2, "kind k 501 1 1;" + islands(4) + "^island m 1 1;");
        bad(2, "wear k=((((((^(1)))))));");
        // Without these, the first by its place.
        bad(3, K + "kind ^k 1 1 1;want j k=1;kind l 0 1 1;");
        bad(4, "want ^j k=1;" + K + "kind k 1 1 1;kind l 0 1 1;");
        bad(5, "kind l ^0 1 1;kind l 1 1 1;want j k=1;");
        bad(5, I + "boat i ^12 0 1000;boat i 12 1 1;");
        bad(4, I + "boat ^j 12 0 1000;");
        bad(4, I + "want i ^i=1;kind k 0 1 1;");
    }

    private static void twice() {
        bad(3, K + "kind ^k 1 1 1;");
        bad(3, I + "island ^i 1 1;");
        bad(3, K + "island ^k 1 1;");
        bad(3, I + "kind ^i 1 1 1;");
        bad(3, kinds(5) + "kind ^a 2 2 2;");
        bad(3, kinds(6) + "island ^f 1 1;");
        bad(3, islands(3) + "island ^i 1 1;");
        bad(3, "kind abcdefgh 1 1 1;island ^abcdefgh 1 1;");
        good("kind abcdefgh 1 1 1;island abcdefgi 1 1;island bbcdefgh 1 1;island abcdefg 1 1;kind bcdefgh 1 1 1;");
        good("kind a 1 1 1;kind aa 1 1 1;kind aaa 1 1 1;island aaaa 1 1;");
        good("kind aa 1 1 1;kind q 1 1 1;kind ab 1 1 1;kind r 1 1 1;kind ba 1 1 1;kind z 1 1 1;island az 1 1;island zz 1 1;");
    }

    private static void twoBoats() {
        for (int month = 0; month < 12; month++) {
            bad(3, I + "boat i " + month + " 1 1;boat i ^" + month + " 2 2 fails 2;");
        }
        good(I + boats(12));
        bad(3, I + boats(11) + "boat i ^0 1 1;");
        bad(3, I + "boat i 3 1 1;boat i ^0003 1 1;");
        // Another ISLAND, another MONTH.
        good(islands(2) + "boat i 3 1 1;boat j 3 1 1;boat i 4 1 1;boat j 4 1 1;");
        bad(3, islands(2) + "boat i 3 1 1;boat j 3 1 1;boat i 4 1 1;boat j ^3 1 1;");
    }

    private static void nameless() {
        bad(4, K + "want ^i k=1;");
        bad(4, I + "want i ^k=1;");
        bad(4, "want ^i k=1;");
        bad(4, K + "lost ^i k=1;");
        bad(4, I + "lost i ^k=1;");
        bad(4, "lost ^i k=1;");
        bad(4, "wear ^k=1;");
        bad(4, "boat ^i 1 1 1;");
        bad(4, K + I + "flow ^j i k=1;");
        bad(4, K + I + "flow i ^j k=1;");
        bad(4, K + I + "flow i house ^l=1;");
        bad(4, K + I + "flow ^j l m=1;");
        bad(4, K + I + "flow house ^l m=1;");
        // Told behind is not told ahead.
        bad(4, K + "want ^i k=1;" + I);
        bad(4, I + "want i ^k=1;" + K);
        bad(4, "boat ^i 1 1 1;" + I);
        bad(4, "wear ^k=1;" + K);
        // A KIND is no ISLAND, an ISLAND no KIND.
        bad(4, K + I + "want ^k k=1;");
        bad(4, K + I + "want i ^i=1;");
        bad(4, K + I + "want ^k i=1;");
        bad(4, K + I + "boat ^k 1 1 1;");
        bad(4, K + I + "wear ^i=1;");
        bad(4, K + I + "flow ^k house k=1;");
        bad(4, K + I + "flow house i ^i=1;");
    }

    /** An INT in place of #: the least and the greatest that is right, and those next to them. */
    private static void ints(String told, int least, int most) {
        good(told.replace("#", "" + least));
        good(told.replace("#", "" + most));
        bad(5, told.replace("#", "^" + (most + 1)));
        bad(5, told.replace("#", "^9999"));
        bad(5, told.replace("#", "^" + (most < 999 ? "0" : "") + (most + 1)));
        if (least > 0) {
            bad(5, told.replace("#", "^0"));
            bad(5, told.replace("#", "^000"));
        }
        good(told.replace("#", "0" + most));
    }

    private static void flowToItself() {
        bad(5, K + I + "flow house ^house k=1;");
        bad(5, K + I + "flow i ^i k=1;");
        bad(5, K + islands(2) + "flow j ^j k=1;");
        good(K + islands(2) + "flow i j k=1;flow j i k=1;flow i house k=1;flow house i k=1;");
    }

    private static final String TEXT = "kind k 2 1 3;kind l 5 1 1;island i 9 1;island j 9 1;want i k=4;boat i 0 9 2;boat i 1 9 2;";

    /** Something of all that there is; the tape is empty. */
    private static CoinBoats used() {
        CoinBoats x = Check.told(TEXT);
        x.strike(0, 7);
        x.lay(1, 0, 1, 2);
        x.lay(2, 1, 3, 5);
        x.send(0, 1, 0, 1, false);
        x.send(2, 1, 0, 1, false);
        x.book(1, 0, 7, true);
        x.looked(1, 5, 2);
        x.months(1, 2);
        x.hold(1);
        return x;
    }

    private static void nothingChanges() {
        String[] texts = {"#", "want", islands(5), K + K, "want i k=1;", "kind k 0 1 1;", TEXT + "kind z 1 1 1", TEXT + TEXT,
            "kind a 9 9 9;island b 8 8;boat b 0 1 1 fails 11;", tokens(400) + "kind"};
        int[] faults = {1, 1, 2, 3, 4, 5, 1, 3, 5, 2};
        CoinBoats x = used();
        String ahead = Picture.of(x);
        for (int i = 0; i < texts.length; i++) {
            due("read() of [" + texts[i] + "]", Check.tell(x, texts[i]), faults[i]);
            due("the tape is empty", x.count(8), 0);
        }
        CHECK.due("behind FAULTS", Picture.of(x), ahead);
        due("the SLOT is there", x.count(9), 1);
        x.lay(0, 0, 0, 1);
        CHECK.due("restore(1)", x.restore(1), true);
        CHECK.due("behind restore(1)", Picture.of(x), ahead);
    }

    private static void inPlaceOfTheOneAhead() {
        CoinBoats x = used();
        due("read()", Check.tell(x, "kind l 7 6 5;island k 4 3;boat k 3 1 1;"), 0);
        int[] counts = {1, 1, 0, 0, 1, 0, 0, 0, 0, 0, 0, 0};
        for (int what = 0; what < 12; what++) {
            due("count(" + what + ")", x.count(what), counts[what]);
        }
        due("WORTH", x.kind(0, 0), 7);
        due("the second KIND", x.kind(1, 0), -1);
        due("SAFE", x.island(1, 0), 4);
        due("the second ISLAND", x.island(2, 0), -1);
        due("its BOAT", x.boat(1, 3), 0);
        due("the BOAT of the one ahead", x.boat(1, 0), -2);
        due("WANTED", x.want(1, 0, 0), 0);
        due("SPENT", x.spent(0), 0);
        due("LACKS", x.lacks(1, 0), 0);
        due("the NAMES of the one ahead are free, and no NAMES", Check.tell(x, "want i k=1;"), 4);
        due("read() of nothing", x.read(), 0);
        due("kinds", x.count(0), 0);
        due("islands", x.count(1), 0);
        due("boats", x.count(4), 0);
        due("the same text again", Check.tell(x, TEXT), 0);
        due("kinds", x.count(0), 2);
        textBehindText();
    }

    /** The fullest text, and the longest, again and again: nothing of the ones ahead is left. */
    private static void textBehindText() {
        CoinBoats x = new CoinBoats();
        String full = K + I + rules(0, 12) + rules(1, 12) + rules(2, 12) + rules(3, 12) + rules(4, 12);
        int[] counts = {1, 1, 12, 12, 12, 0, 0, 0, 0, 0, 12, 12};
        for (int i = 0; i < 5; i++) {
            due("the fullest text", Check.tell(x, full), 0);
            for (int what = 0; what < 12; what++) {
                due("count(" + what + ")", x.count(what), counts[what]);
            }
            due("the longest text", Check.tell(x, tokens(400)), 0);
            due("count(2)", x.count(2), 1);
            due("count(3)", x.count(3), 0);
            due("WANTED", x.want(1, 0, 0), 190);
        }
        due("read() of nothing", x.read(), 0);
        due("a text without rules", Check.tell(x, K + I), 0);
        due("WANTED", x.want(1, 0, 0), 0);
        due("a BOAT", x.boat(1, 0), -2);
        x.lay(0, 0, 0, 9);
        x.lay(1, 0, 0, 9);
        due("nothing is lacked", x.months(1, 1), 0);
        due("no FLOW, WEAR, LOSS", x.has(1, 0, 0), 9);
    }

    private static void noPieces() {
        CoinBoats x = used();
        due("has(2, 1, 3)", x.has(2, 1, 3), 5);
        due("read()", Check.tell(x, TEXT), 0);
        for (int place = 0; place < 3; place++) {
            for (int kind = 0; kind < 2; kind++) {
                due("has(" + place + ", " + kind + ", -1)", x.has(place, kind, -1), 0);
            }
        }
    }

    private static void noSendings() {
        CoinBoats x = used();
        due("count(5)", x.count(5), 2);
        due("read()", Check.tell(x, TEXT), 0);
        due("count(5)", x.count(5), 0);
        due("done(0)", x.done(0), -1);
        due("judge()", x.judge(), -2);
        due("the first is numbered", x.send(0, 1, 0, 1, false), 0);
        due("it is not its TIME yet", x.done(0), -2);
    }

    private static void noBooks() {
        CoinBoats x = used();
        due("count(6)", x.count(6), 2);
        due("read()", Check.tell(x, TEXT), 0);
        due("count(6)", x.count(6), 0);
        due("balance(1, 0, 1)", x.balance(1, 0, 1), -1000000);
        due("balance(1, 0, 0)", x.balance(1, 0, 0), 0);
        due("whose(0)", x.whose(0), -2);
        due("the first is numbered", x.book(1, 0, 3, true), 0);
        due("balance(1, 0, 1)", x.balance(1, 0, 1), 3);
    }

    private static void monthNone() {
        CoinBoats x = used();
        due("count(7)", x.count(7), 2);
        due("read()", Check.tell(x, TEXT), 0);
        due("count(7)", x.count(7), 0);
        due("send(0, ..)", x.send(0, 1, 0, 1, false), 0);
        due("the BOAT of MONTH 0", x.months(1, 1), 4);
        due("done(0)", x.done(0), 4);
    }

    private static void slotsHoldNothing() {
        CoinBoats x = used();
        x.hold(0);
        due("count(9)", x.count(9), 2);
        due("read()", Check.tell(x, TEXT), 0);
        due("count(9)", x.count(9), 0);
        CHECK.due("restore(0)", x.restore(0), false);
        CHECK.due("restore(1)", x.restore(1), false);
        due("count(7)", x.count(7), 0);
        due("an empty text", x.read(), 0);
        CHECK.due("hold(0) of nothing", x.hold(0), true);
        due("an empty text again", x.read(), 0);
        CHECK.due("restore(0)", x.restore(0), false);
    }
}
