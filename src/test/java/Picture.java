/**
 * All that a SLOT would hold, as an object answers it: to see that a refused call changes nothing. Less than a hundred
 * calls, none of which changes anything; what is on the tape and in the SLOTS is not in the picture.
 */
final class Picture {
    private final CoinBoats x;
    private final int kinds;
    private final int islands;
    private final StringBuilder seen = new StringBuilder();

    private Picture(CoinBoats x) {
        this.x = x;
        kinds = x.count(0);
        islands = x.count(1);
    }

    static String of(CoinBoats x) {
        Picture picture = new Picture(x);
        picture.text();
        picture.pieces();
        picture.books();
        return picture.seen.toString();
    }

    private void see(String name, long answer) {
        seen.append(name).append(answer).append(' ');
    }

    private void text() {
        for (int what = 0; what < 12; what++) {
            if (what != 8 && what != 9) {
                see("count", x.count(what));
            }
        }
        for (int kind = 0; kind < kinds; kind++) {
            see("worth", x.kind(kind, 0));
            see("new", x.kind(kind, 2));
        }
        for (int place = 1; place <= islands; place++) {
            see("safe", x.island(place, 0));
            see("boat", x.boat(place, 0));
            see("want", x.want(place, 0, 1));
        }
    }

    private void pieces() {
        for (int kind = 0; kind < kinds; kind++) {
            for (int place = 0; place <= islands; place++) {
                for (int worn = 0; worn < 4; worn++) {
                    see("has", x.has(place, kind, worn));
                }
                see("lacks", x.lacks(place, kind));
            }
        }
        for (int what = 1; what < 4; what++) {
            see("spent", x.spent(what));
        }
        int sendings = Math.min(6, x.count(5));
        for (int i = 0; i < sendings; i++) {
            see("done", x.done(i));
        }
        see("judge", x.judge());
        see("why", x.why());
    }

    private void books() {
        int n = x.count(6);
        for (int place = 1; place <= islands; place++) {
            for (int kind = 0; kind < kinds; kind++) {
                see("balance", x.balance(place, kind, n));
            }
            see("ways", x.whoseWays(place, n, true));
            see("ways", x.whoseWays(place, n, false));
        }
    }
}
