import java.util.Random;

/** Texts by chance (always the same ones), with and without FAULTS, read by CoinBoats and by Plain. */
public final class RandomTextsTest {
    public static void main(String[] args) {
        Check check = new Check();
        int[] faults = new int[6];
        for (int seed = 1; seed <= 12000; seed++) {
            String text = new Texts(new Random(seed)).next();
            CoinBoats x = new CoinBoats();
            Plain y = new Plain();
            Check.feed(x, text);
            feed(y, text);
            check.promise("text " + seed + " [" + text + "]");
            int fault = y.read();
            faults[Math.max(0, Math.min(5, fault))]++;
            check.due("read()", x.read(), fault);
            check.due("place()", x.place(), y.place());
            for (int what = 0; what < 12; what++) {
                check.due("count(" + what + ")", x.count(what), y.count(what));
            }
            for (int place = 1; place <= y.count(1) && check.wrong() == 0; place++) {
                for (int kind = 0; kind < y.count(0); kind++) {
                    for (int month = 0; month < 12; month++) {
                        check.due("want", x.want(place, kind, month), y.want(place, kind, month));
                    }
                }
            }
        }
        for (int fault = 0; fault < 6; fault++) {
            check.due("texts of fault " + fault + " enough", faults[fault] > 90, true);
        }
        check.finish();
    }

    private static void feed(Plain y, String text) {
        for (int at = 0; at < text.length(); at += 20) {
            int[] f = new int[5];
            for (int i = 0; i < 20; i++) {
                f[i / 4] = f[i / 4] << 8 | (at + i < text.length() ? text.charAt(at + i) & 255 : 32);
            }
            y.feed(f[0], f[1], f[2], f[3], f[4]);
        }
        y.back(text.length() % 20 == 0 ? 0 : 20 - text.length() % 20);
    }
}
