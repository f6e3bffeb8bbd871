/** Counts the answers that are not the ones that are due. */
final class Check {
    private String promise = "";
    private int wrong;
    private int asked;

    void promise(String promise) {
        this.promise = promise;
    }

    void due(String call, long got, long want) {
        asked++;
        if (got != want) {
            wrong++;
            if (wrong <= 40) {
                System.out.println(promise + ": " + call + " answered " + got + ", due is " + want);
            }
        }
    }

    void due(String call, boolean got, boolean want) {
        due(call, got ? 1 : 0, want ? 1 : 0);
    }

    void due(String call, String got, String want) {
        if (!got.equals(want)) {
            System.out.println("  was " + want);
            System.out.println("  is  " + got);
        }
        due(call, got.equals(want), true);
    }

    /** A text's FAULT, at the place of the first ^, which is not of the text. */
    void fault(int fault, String marked) {
        int place = marked.indexOf('^');
        told(marked.substring(0, place) + marked.substring(place + 1), fault, place);
    }

    void good(String text) {
        told(text, 0, CoinBoats.NONE);
    }

    private void told(String text, int fault, int place) {
        CoinBoats x = new CoinBoats();
        due("read() of [" + text + "]", tell(x, text), fault);
        due("place() of [" + text + "]", x.place(), place);
    }

    int wrong() {
        return wrong;
    }

    int asked() {
        return asked;
    }

    void finish() {
        System.out.println(asked + " answers, " + wrong + " not as due");
        if (wrong != 0) {
            System.exit(1);
        }
    }

    /** Puts a text behind the tape. */
    static void feed(CoinBoats x, String text) {
        for (int at = 0; at < text.length(); at += 20) {
            int[] fours = new int[5];
            for (int i = 0; i < 20; i++) {
                int sign = at + i < text.length() ? text.charAt(at + i) & 255 : ' ';
                fours[i / 4] = fours[i / 4] << 8 | sign;
            }
            x.feed(fours[0], fours[1], fours[2], fours[3], fours[4]);
        }
        if (text.length() % 20 != 0) {
            x.back(20 - text.length() % 20);
        }
    }

    static int tell(CoinBoats x, String text) {
        feed(x, text);
        return x.read();
    }

    /** A new object that was told a text without a FAULT. */
    static CoinBoats told(String text) {
        CoinBoats x = new CoinBoats();
        int fault = tell(x, text);
        if (fault != 0) {
            throw new IllegalStateException("fault " + fault + " at " + x.place() + " of: " + text);
        }
        return x;
    }
}
