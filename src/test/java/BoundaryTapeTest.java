/** Boundary cases of the tape, of TOKENS and of the grammar: promises 1 to 5, and term I up to its FAULTS. */
public final class BoundaryTapeTest {
    private static final Check CHECK = new Check();
    // Both of 13 bytes; of 6 and 5 TOKENS.
    private static final String K = "kind k 1 1 1;";
    private static final String I = "island i 1 1;";
    private static final String BLANKS = "\t\n\r ";
    private static final int SPACES = 0x20202020;

    public static void main(String[] args) {
        Sentences s = new Sentences(CHECK);
        sentences(s);
        s.run();
    }

    static void sentences(Sentences s) {
        s.hold("What it is", "An object is used for at most 512 calls after it has been made;", BoundaryTapeTest::lastCall);
        s.hold("Promise 1", "Nothing is told.", BoundaryTapeTest::nothingIsTold);
        s.hold("Promise 2", "Twenty bytes, the highest of a first, come behind the tape: how many it has.", BoundaryTapeTest::fed);
        s.hold("Promise 2", "NONE, and nothing comes, if it would have more than 2,000.", BoundaryTapeTest::fedTooMany);
        s.hold("Promise 3", "The last n bytes of the tape go: how many it has.", BoundaryTapeTest::gone);
        s.hold("Promise 3", "NONE, and nothing goes, if it has not so many,", BoundaryTapeTest::notSoMany);
        s.hold("Promise 3", "or n is below 0.", BoundaryTapeTest::belowNone);
        s.hold("Promise 4", "The tape, which is empty then, is read: 0, or the number of its FAULT.", BoundaryTapeTest::emptyBehindRead);
        s.hold("Promise 5", "The byte of the latest read()'s FAULT;", BoundaryTapeTest::latestFault);
        s.hold("Promise 5", "NONE without.", BoundaryTapeTest::noFault);
        s.hold("Term I", "A TEXT has 2,000 bytes at most.", BoundaryTapeTest::longestText);
        s.hold("Term I", "TOKENS, the longest that can be,", BoundaryTapeTest::longestTokens);
        s.hold("Term I", "with blanks (9, 10, 13, 32) between or not:", BoundaryTapeTest::blanks);
        s.hold("Term I", "NAMES (letters a .. z, 8 at most, none of the words in quotes),", BoundaryTapeTest::names);
        s.hold("Term I", "INTS (1 to 4 digits),", BoundaryTapeTest::ints);
        s.hold("Term I", "SIGNS ; = + - * / == < ( ) [ ] .", BoundaryTapeTest::signs);
        s.hold("Term I", "A longer one, all else, is no TOKEN.", BoundaryTapeTest::noTokens);
        grammar(s);
    }

    private static void grammar(Sentences s) {
        s.hold("Term I", "text: {TELL}.", BoundaryTapeTest::noTell);
        s.hold("Term I", "TELL: 'kind' NAME INT INT INT ';' |", BoundaryTapeTest::tellKind);
        s.hold("Term I", "'island' NAME INT INT ';' |", BoundaryTapeTest::tellIsland);
        s.hold("Term I", "('want' | 'lost') NAME NAME '=' E ';' |", BoundaryTapeTest::tellWantOrLost);
        s.hold("Term I", "'flow' (NAME | 'house') (NAME | 'house') NAME '=' E ';' |", BoundaryTapeTest::tellFlow);
        s.hold("Term I", "'wear' NAME '=' E ';' |", BoundaryTapeTest::tellWear);
        s.hold("Term I", "'boat' NAME INT INT INT ['fails' INT] ';'.", BoundaryTapeTest::tellBoat);
        s.hold("Term I", "E: PART {('+' | '-') PART}.", BoundaryTapeTest::parts);
        s.hold("Term I", "PART: UNIT {('*' | '/') UNIT}.", BoundaryTapeTest::units);
        s.hold("Term I", "UNIT: INT | VAR | '(' E ')' | '[' E ('<' | '==') E ']'.", BoundaryTapeTest::nested);
        s.hold("Term I", "VAR: 'month' | 'has' | 'worn' | 'noise'.", BoundaryTapeTest::vars);
    }

    private static void due(String call, long got, long want) {
        CHECK.due(call, got, want);
    }

    private static void good(String text) {
        CHECK.good(text);
    }

    /** The first byte with which no text goes on stands behind the ^. */
    private static void bad(String marked) {
        CHECK.fault(1, marked);
    }

    private static void lastCall() {
        CoinBoats x = Check.told(K);
        // The text took one feed, one back, one read.
        for (int i = 1; i <= 508; i++) {
            due("strike(0, 1)", x.strike(0, 1), i);
        }
        due("call 512", x.has(0, 0, 0), 508);
    }

    private static void nothingIsTold() {
        CoinBoats x = new CoinBoats();
        for (int what = 0; what < 12; what++) {
            due("count(" + what + ")", x.count(what), 0);
        }
        due("place()", x.place(), -1);
        due("kind(0, 0)", x.kind(0, 0), -1);
        due("island(1, 0)", x.island(1, 0), -1);
        due("boat(1, 0)", x.boat(1, 0), -1);
        due("want(1, 0, 0)", x.want(1, 0, 0), -1);
        due("strike(0, 1)", x.strike(0, 1), -1);
        due("burn(0, 0)", x.burn(0, 0), -1);
        due("lay(0, 0, 0, 0)", x.lay(0, 0, 0, 0), -1);
        due("has(0, 0, -1)", x.has(0, 0, -1), -1);
        due("send(0, 1, 0, 1, false)", x.send(0, 1, 0, 1, false), -1);
        due("done(0)", x.done(0), -1);
        due("judge()", x.judge(), -2);
        due("why()", x.why(), 0);
        due("lacks(1, 0)", x.lacks(1, 0), -1);
        for (int what = 0; what < 4; what++) {
            due("spent(" + what + ")", x.spent(what), 0);
        }
        due("months(0, 24)", x.months(0, 24), 0);
        nothingIsCounted(new CoinBoats());
        nothingIsBooked(new CoinBoats());
    }

    private static void nothingIsCounted(CoinBoats x) {
        due("pay(0, 1, 0)", x.pay(0, 1, 0), -2);
        due("pay(0, 1, 10)", x.pay(0, 1, 10), -1);
        due("pay(1, 1, 0)", x.pay(1, 1, 0), -1);
        due("change(0, 1, 9, 0)", x.change(0, 1, 9, 0), -2);
        due("change(0, 1, 9, 10)", x.change(0, 1, 9, 10), -1);
        due("change(0, 1, 9, 20)", x.change(0, 1, 9, 20), -1);
        due("which(1, 0)", x.which(1, 0), -2);
        due("whichSum(1, 0)", x.whichSum(1, 0), -2);
        due("least(1, 0, 0, 1, 0, 0)", x.least(1, 0, 0, 1, 0, 0), -1);
        due("order(1, 0, 0, 1, 0, 0)", x.order(1, 0, 0, 1, 0, 0), -1);
        due("price(1, 0, 0, 1, 0, 0)", x.price(1, 0, 0, 1, 0, 0), -1);
        due("pool(0, 0, 1)", x.pool(0, 0, 1), -1);
        due("saved(0, 0, 1)", x.saved(0, 0, 1), -1);
        due("holds(0, 0, 0, 0, 0, 0)", x.holds(0, 0, 0, 0, 0, 0), -1);
        due("burnAt(0, 0, 1)", x.burnAt(0, 0, 1), -1);
    }

    private static void nothingIsBooked(CoinBoats x) {
        due("book(1, 0, 0, true)", x.book(1, 0, 0, true), -1);
        due("looked(1, 0, 0)", x.looked(1, 0, 0), -1);
        due("annul(0)", x.annul(0), -1);
        due("balance(1, 0, 0)", x.balance(1, 0, 0), -1000000);
        due("richest(0)", x.richest(0), -2);
        due("richest(1)", x.richest(1), -1);
        due("jars(1, 0, 1, 0)", x.jars(1, 0, 1, 0), -1);
        due("ends(1, 0, 1, 0)", x.ends(1, 0, 1, 0), -1);
        due("whose(0)", x.whose(0), -2);
        due("whoseWays(1, 0, true)", x.whoseWays(1, 0, true), -1);
        CHECK.due("restore(0)", x.restore(0), false);
        CHECK.due("restore(1)", x.restore(1), false);
        due("back(1)", x.back(1), -1);
        due("read()", x.read(), 0);
    }

    private static void fed() {
        CoinBoats x = new CoinBoats();
        // "kind" " k 1" "23 1" "4 56" ";   "
        due("feed", x.feed(0x6b696e64, 0x206b2031, 0x32332031, 0x34203536, 0x3b202020), 20);
        due("feed", x.feed(SPACES, SPACES, SPACES, SPACES, SPACES), 40);
        due("read()", x.read(), 0);
        due("WORTH", x.kind(0, 0), 123);
        due("WEIGHT", x.kind(0, 1), 14);
        due("NEW", x.kind(0, 2), 56);
        // One byte that is no blank, at each of the twenty places in turn.
        for (int at = 0; at < 20; at++) {
            for (int sign : new int[] {1, 127, 128, 255}) {
                int[] f = {SPACES, SPACES, SPACES, SPACES, SPACES};
                int shift = 24 - 8 * (at % 4);
                f[at / 4] = f[at / 4] & ~(255 << shift) | sign << shift;
                due("feed of byte " + sign + " at " + at, x.feed(f[0], f[1], f[2], f[3], f[4]), 20);
                due("read()", x.read(), 1);
                due("place()", x.place(), at);
            }
        }
    }

    /** So many bytes on the tape, the first of them a text of 13, all others blank. */
    private static CoinBoats blankTape(int bytes) {
        CoinBoats x = new CoinBoats();
        Check.feed(x, K + " ".repeat(bytes - K.length()));
        due("count(8)", x.count(8), bytes);
        return x;
    }

    private static void fedTooMany() {
        CoinBoats x = blankTape(1980);
        due("feed up to 2000", x.feed(SPACES, SPACES, SPACES, SPACES, SPACES), 2000);
        due("feed beyond 2000", x.feed(-1, -1, -1, -1, -1), -1);
        due("count(8)", x.count(8), 2000);
        due("nothing came", x.read(), 0);
        for (int bytes = 1981; bytes <= 2000; bytes++) {
            x = blankTape(bytes);
            due("feed behind " + bytes, x.feed(-1, -1, -1, -1, -1), -1);
            due("count(8)", x.count(8), bytes);
            due("nothing came behind " + bytes, x.read(), 0);
            due("feed behind read()", x.feed(SPACES, SPACES, SPACES, SPACES, SPACES), 20);
        }
        for (int bytes = 1960; bytes < 1980; bytes++) {
            x = blankTape(bytes);
            due("feed behind " + bytes, x.feed(SPACES, SPACES, SPACES, SPACES, SPACES), bytes + 20);
        }
    }

    private static void gone() {
        CoinBoats x = new CoinBoats();
        Check.feed(x, K + "####");
        due("back(0)", x.back(0), 17);
        due("back(4)", x.back(4), 13);
        due("the last bytes went", x.read(), 0);
        Check.feed(x, "kind k 1 1 12;");
        due("back(2)", x.back(2), 12);
        Check.feed(x, ";");
        due("read()", x.read(), 0);
        due("NEW", x.kind(0, 2), 1);
        Check.feed(x, "########################################");
        due("back(40), all", x.back(40), 0);
        due("back(0) of nothing", x.back(0), 0);
        Check.feed(x, K);
        due("what comes then is first", x.read(), 0);
        x = blankTape(2000);
        due("back(2000), all", x.back(2000), 0);
    }

    private static void notSoMany() {
        CoinBoats x = new CoinBoats();
        due("back(1) of nothing", x.back(1), -1);
        due("back(most) of nothing", x.back(Integer.MAX_VALUE), -1);
        Check.feed(x, K);
        for (int n : new int[] {14, 20, 2000, 2001, Integer.MAX_VALUE}) {
            due("back(" + n + ") of 13", x.back(n), -1);
            due("count(8)", x.count(8), 13);
        }
        due("nothing went", x.read(), 0);
        due("count(0)", x.count(0), 1);
        due("back(1) behind read()", x.back(1), -1);
        due("back(0) behind read()", x.back(0), 0);
    }

    private static void belowNone() {
        CoinBoats x = new CoinBoats();
        due("back(-1) of nothing", x.back(-1), -1);
        Check.feed(x, K);
        for (int n : new int[] {-1, -2, -13, -2000, Integer.MIN_VALUE}) {
            due("back(" + n + ")", x.back(n), -1);
            due("count(8)", x.count(8), 13);
        }
        due("nothing went, nothing came", x.read(), 0);
        due("count(0)", x.count(0), 1);
    }

    private static void emptyBehindRead() {
        CoinBoats x = new CoinBoats();
        due("read() of nothing", x.read(), 0);
        String[] texts = {K, "kind", "want i k=((((((((", K + K, "want i k=1;", "kind k 0 1 1;"};
        int[] faults = {0, 1, 2, 3, 4, 5};
        for (int i = 0; i < texts.length; i++) {
            Check.feed(x, i == 2 ? K + I + texts[i] : texts[i]);
            due("read() of [" + texts[i] + "]", x.read(), faults[i]);
            due("count(8)", x.count(8), 0);
            due("the next one alone", Check.tell(x, "island i 1 1;#"), 1);
            due("its place()", x.place(), 13);
        }
    }

    private static void latestFault() {
        CoinBoats x = new CoinBoats();
        due("read()", Check.tell(x, "kind k 0 1 1;"), 5);
        due("place()", x.place(), 7);
        Check.feed(x, K + "#");
        due("place() ahead of the next read()", x.place(), 7);
        due("back(0)", x.back(0), 14);
        due("place() ahead of the next read()", x.place(), 7);
        due("read()", x.read(), 1);
        due("place()", x.place(), 13);
        due("place() again", x.place(), 13);
        due("a FAULT at byte 0", Check.tell(x, "#"), 1);
        due("place()", x.place(), 0);
        due("a FAULT at the end of 2000", Check.tell(x, "kind" + " ".repeat(1996)), 1);
        due("place()", x.place(), 2000);
    }

    private static void noFault() {
        CoinBoats x = new CoinBoats();
        due("place() of a new object", x.place(), -1);
        due("read() of nothing", x.read(), 0);
        due("place()", x.place(), -1);
        due("read()", Check.tell(x, "#"), 1);
        due("place()", x.place(), 0);
        due("read()", Check.tell(x, K), 0);
        due("place()", x.place(), -1);
        due("read()", Check.tell(x, "#"), 1);
        due("read() of nothing", x.read(), 0);
        due("place()", x.place(), -1);
    }

    private static void longestText() {
        good("kind k 1 1 1" + " ".repeat(1987) + ";");
        bad(K + " ".repeat(1986) + "^;");
        bad("kind k 1 1 1" + " ".repeat(1988) + "^");
        CoinBoats x = Check.told("island i 1 1;kind k 1 1 1;want i k=4" + " ".repeat(1961) + "+3;");
        due("want(1, 0, 0)", x.want(1, 0, 0), 7);
    }

    private static void longestTokens() {
        bad("^kindk 1 1 1;");
        good("kind kinds 1 1 1;");
        bad(K + I + "boat i 1 1 1 ^failsx 3;");
        bad(K + "wear k=^months;");
        bad(K + I + "want i k^==1;");
        bad(K + "wear k=[1==^=1];");
        good(K + "wear k=[1==1];");
        bad(K + "wear k=[1^= =1];");
        CoinBoats x = Check.told("kind k 12 11 34;island i 1 1;want i k=1234;");
        due("WORTH", x.kind(0, 0), 12);
        due("WEIGHT", x.kind(0, 1), 11);
        due("NEW", x.kind(0, 2), 34);
        due("WANTED", x.want(1, 0, 0), 1234);
    }

    private static boolean isLetter(int sign) {
        return sign >= 97 && sign <= 122;
    }

    private static boolean isDigit(int sign) {
        return sign >= 48 && sign <= 57;
    }

    private static void blanks() {
        for (int sign = 0; sign < 256; sign++) {
            char b = (char) sign;
            if (BLANKS.indexOf(b) >= 0) {
                good(b + "kind" + b + "k" + b + "1" + b + b + "1" + b + "1" + b + ";" + b);
            } else {
                bad(K + "^" + b);
                bad("^" + b + K);
                bad(isLetter(sign) ? "^kind" + b + "k 1 1 1;" : "kind^" + b + "k 1 1 1;");
            }
        }
        good("kind k1 1 1;island i1 1;boat i1 1 1fails1;want i k=1+month*has-worn/noise+[1<2]*(3);");
        good(" \t\r\n kind \r\n k \t\t 1\n1\n1\n\n;\n ");
        // Blanks part TOKENS that would be one else.
        bad(K + I + "boat i 1 ^;");
        bad("kind a ^b 1 1 1;");
        bad("^ki nd a 1 1 1;");
    }

    private static void names() {
        for (int sign = 0; sign < 256; sign++) {
            char b = (char) sign;
            if (isLetter(sign)) {
                good("kind " + b + " 1 1 1;");
                good("island " + b + " 1 1;");
            } else if (BLANKS.indexOf(b) >= 0) {
                bad("kind " + b + " ^1 1 1;");
            } else {
                bad("kind ^" + b + " 1 1 1;");
                bad("island ^" + b + " 1 1;");
            }
        }
        String eight = "zyxwabcd";
        for (int letters = 1; letters <= 8; letters++) {
            good("kind " + eight.substring(0, letters) + " 1 1 1;");
        }
        bad("kind ^zyxwabcde 1 1 1;");
        for (String word : new String[] {"kind", "island", "want", "lost", "flow", "house", "wear", "boat", "fails",
            "month", "has", "worn", "noise"}) {
            bad("kind ^" + word + " 1 1 1;");
            bad("island ^" + word + " 1 1;");
            good("kind " + word + "s 1 1 1;island x" + word + " 1 1;");
            for (int at = 0; at < word.length(); at++) {
                String other = word.substring(0, at) + (word.charAt(at) == 'q' ? 'p' : 'q') + word.substring(at + 1);
                good("kind " + other + " 1 1 1;island " + word.substring(0, at) + word.substring(at + 1) + "z 1 1;");
            }
        }
        // Eight letters are told apart by the first and by the last one.
        good("kind abcdefgh 1 1 1;kind bbcdefgh 1 1 1;kind abcdefgi 1 1 1;kind abcdefg 1 1 1;island bcdefgh 1 1;");
    }

    private static void ints() {
        for (int sign = 0; sign < 256; sign++) {
            char b = (char) sign;
            if (isDigit(sign)) {
                CoinBoats x = Check.told(K + I + "want i k=" + b + ";");
                due("the digit " + b, x.want(1, 0, 0), sign - 48);
                x = Check.told(K + I + "want i k=5" + b + "07;");
                due("the digit " + b + " within", x.want(1, 0, 0), 5007 + 100 * (sign - 48));
            } else if (b == '(' || b == '[' || BLANKS.indexOf(b) >= 0) {
                bad(K + "wear k=" + b + "^;");
            } else if (b == '=') {
                bad(K + "wear k^==;");
            } else {
                bad(K + "wear k=^" + b + ";");
            }
        }
        String[] told = {"0", "7", "00", "42", "000", "999", "0000", "0009", "9999"};
        int[] ints = {0, 7, 0, 42, 0, 999, 0, 9, 9999};
        for (int i = 0; i < told.length; i++) {
            due("the INT " + told[i], Check.told(K + I + "want i k=" + told[i] + ";").want(1, 0, 0), ints[i]);
        }
        bad(K + I + "want i k=^00001;");
        bad(K + I + "want i k=^10000;");
    }

    private static void signs() {
        for (int sign = 0; sign < 256; sign++) {
            char b = (char) sign;
            String text = K + I + "want i k=8" + b + "2;";
            if (isDigit(sign)) {
                due(text, Check.told(text).want(1, 0, 0), 802 + 10 * (sign - 48));
            } else if ("+-*/".indexOf(b) >= 0) {
                int[] want = {10, 6, 16, 4};
                due(text, Check.told(text).want(1, 0, 0), want["+-*/".indexOf(b)]);
            } else if (b == ';' || BLANKS.indexOf(b) >= 0) {
                bad(K + I + "want i k=8" + b + "^2;");
            } else {
                bad(K + I + "want i k=8^" + b + "2;");
            }
            if (b == '<') {
                good(K + I + "want i k=[8<2];");
            } else if (!isDigit(sign) && "+-*/".indexOf(b) < 0) {
                boolean blank = BLANKS.indexOf(b) >= 0;
                bad(K + I + "want i k=[8" + (blank ? b + "^2];" : "^" + b + "2];"));
            }
        }
        good(K + I + "want i k=[8==2]*(1);");
    }

    private static void noTokens() {
        bad("^abcdefghi 1 1 1;");
        bad("^kindkindk k 1 1 1;");
        bad("kind ^abcdefghi 1 1 1;");
        bad("island ^abcdefghi 1 1;");
        bad("kind ^abcdefghijklmnopqrstuvwxyz 1 1 1;");
        bad("kind abcdefgh 1 1 1;wear ^abcdefghi=1;");
        bad("kind k ^00001 1 1;");
        bad("kind k 1 ^00001 1;");
        bad("kind k 1 1 ^00000;");
        bad("kind k 1 1 ^12345678901234567890;");
        // 2 to the 32 and 1.
        bad("kind k ^4294967297 1 1;");
        bad("island i ^00001 1;");
        bad(K + I + "boat i ^00001 1 1;");
        bad(K + I + "boat i 1 1 1 fails ^00001;");
        bad("kind k 1^.1 1;");
        bad("kind k ^-1 1 1;");
        bad("kind ^K 1 1 1;");
        bad("^Kind k 1 1 1;");
        bad("kind ^'k' 1 1 1;");
        bad("kind k 1^,1 1;");
        bad("kind k 1 1 1^:");
        bad(K + "wear k=1^>1;");
        bad(K + "wear k=1^%1;");
        bad(K + "wear k^!=1;");
        bad(K + "wear k=1^\u00001;");
        bad(K + "^\u00ff");
    }

    private static void noTell() {
        good("");
        good(" ");
        good(K);
        good(K + K.replace("k ", "l ") + I);
        good(I + K);
        bad("^;");
        bad(K + "^;");
        bad(K + "^k 1 1 1;");
        bad(K + "^1");
        bad("^house");
        bad("^fails 1;");
        bad("^month");
        bad("^kinds");
        CoinBoats x = new CoinBoats();
        due("read() of no TELL", x.read(), 0);
        due("count(0)", x.count(0), 0);
    }

    private static void tellKind() {
        good("kind k 1 1 1;");
        for (String marked : new String[] {"kind^", "kind ^", "kind k^", "kind k 1^", "kind k 1 1^", "kind k 1 1 1^",
            "kind^;", "kind k^;", "kind k 1^;", "kind k 1 1^;", "kind k 1 1 1 ^1;", "kind ^1 1 1;", "kind k ^k 1 1 1;",
            "kind k 1 ^k 1 1;", "kind k^=1 1 1;", "kind k 1 1 1^=", "kind ^kind k 1 1 1;", "kind k 1 1 1 ^kind",
            "kind k 1 1 ^month;", "kind k 1 1^(1);"}) {
            bad(marked);
        }
    }

    private static void tellIsland() {
        good("island i 1 1;");
        for (String marked : new String[] {"island^", "island ^", "island i^", "island i 1^", "island i 1 1^", "island^;",
            "island i^;", "island i 1^;", "island i 1 1 ^1;", "island ^1 1;", "island ^house 1 1;", "island i ^i 1 1;",
            "island i 1 1^=", "island i 1 1 ^island"}) {
            bad(marked);
        }
    }

    private static void tellWantOrLost() {
        for (String word : new String[] {"want", "lost"}) {
            good(K + I + word + " i k=1;");
            for (String rest : new String[] {"^", " ^", " i^", " i k^", " i k=^", " i k=1^", "^;", "^=1;", " i^=1;", " i k^;",
                " i k ^1;", " i k=^;", " i k ^k=1;", " ^house k=1;", " i ^house=1;", " i ^1=1;", " i k^+1;", " i k=1^=1;"}) {
                bad(K + I + word + rest);
            }
        }
        bad(K + I + "^wants i k=1;");
        bad(K + I + "want ^lost i k=1;");
    }

    private static void tellFlow() {
        good(K + I + "flow i house k=1;");
        good(K + I + "flow house i k=1;");
        good(K + I + "island j 1 1;flow i j k=1;");
        for (String rest : new String[] {"^", " ^", " i^", " house^", " i house^", " house i^", " i house k^", " i house k=^",
            " i house k=1^", "^=1;", " i^=1;", " i house^=1;", " i k^=1;", " house k^=1;", " i house ^house=1;",
            " house i k ^k=1;", " i house k^;", " i house k=^;", " ^1 i k=1;", " i ^1 k=1;", " i^;"}) {
            bad(K + I + "flow" + rest);
        }
    }

    private static void tellWear() {
        good(K + "wear k=1;");
        for (String rest : new String[] {"^", " ^", " k^", " k=^", " k=1^", "^=1;", "^;", " k^;", " k=^;", " k ^k=1;",
            " ^house=1;", " k ^1;", " k^==1;", " k=1^==1;", " ^1=1;"}) {
            bad(K + I + "wear" + rest);
        }
    }

    private static void tellBoat() {
        good(K + I + "boat i 1 1 1;");
        good(K + I + "boat i 1 1 1 fails 1;");
        for (String rest : new String[] {"^", " ^", " i^", " i 1^", " i 1 1^", " i 1 1 1^", " i 1 1 1 fails^",
            " i 1 1 1 fails 1^", "^;", " i^;", " i 1^;", " i 1 1^;", " i 1 1 1 fails^;", " i 1 1 1 ^1;",
            " i 1 1 1 fails 1 ^1;", " i 1 1 1 fails 1 ^fails 1;", " i 1 1 ^fails 1;", " ^house 1 1 1;", " ^1 1 1;",
            " i ^i 1 1 1;", " i 1 1 1^=1;", " i 1 1 1 ^i;"}) {
            bad(K + I + "boat" + rest);
        }
    }

    private static void e(String marked) {
        bad(K + "wear k=" + marked);
    }

    private static void parts() {
        good(K + "wear k=1;");
        good(K + "wear k=1+1;");
        good(K + "wear k=1-1+1-1+1;");
        for (String marked : new String[] {"^;", "^+1;", "^-1;", "1+^;", "1-^;", "1+^+1;", "1-^-1;", "1+1 ^1;", "1+1^", "1+^"}) {
            e(marked);
        }
    }

    private static void units() {
        good(K + "wear k=1*1;");
        good(K + "wear k=1*1/1*1/1+1/1;");
        for (String marked : new String[] {"^*1;", "^/1;", "1*^;", "1/^;", "1*^*1;", "1/^/1;", "1+^*1;", "1*^+1;", "1*^-1;", "1*^"}) {
            e(marked);
        }
    }

    private static void nested() {
        good(K + "wear k=(1);");
        good(K + "wear k=(1+1)*(1);");
        good(K + "wear k=[1<1];");
        good(K + "wear k=[1==1]+[1+1*1<(1)];");
        for (String marked : new String[] {"(^);", "[^];", "(1^;", "(1^];", "[1^];", "[1^;", "[1<^];", "[1==^];", "[^<1];",
            "[^==1];", "[1<1^;", "[1<1^);", "(1^<1);", "(1^==1);", "1^<1;", "1^==1;", "[1<1^<1];", "[1==1^<1];", "[1^=1];",
            "[1^)", "1^)", "1^]", "^)", "^]", "(1^", "[1^", "[1<^", "[1<1^", "(^)", "1^(1);", "(1)^(1);",
            "(1)^1;", "1^[1<1];", "^k;", "^house;", "^kind;", "^fails;"}) {
            e(marked);
        }
    }

    private static void vars() {
        for (String word : new String[] {"month", "has", "worn", "noise"}) {
            good(K + "wear k=" + word + ";");
            good(K + "wear k=(" + word + "+" + word + ")*[" + word + "<" + word + "];");
            e("^" + word + "s;");
            e(word + " ^" + word + ";");
            e(word + "^(1);");
        }
        for (String word : new String[] {"kind", "island", "want", "lost", "flow", "house", "wear", "boat", "fails"}) {
            e("^" + word + ";");
        }
    }
}
