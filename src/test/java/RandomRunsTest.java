import java.util.ArrayList;
import java.util.List;
import java.util.Random;

/** Runs of calls by chance (always the same ones), each answer compared with that of Plain. */
public final class RandomRunsTest {
    private final Random chance;
    private final CoinBoats x = new CoinBoats();
    private final Plain y = new Plain();
    private final List<String> calls = new ArrayList<>();
    private int wrong;
    private int kinds;
    private int islands;

    private RandomRunsTest(long seed) {
        chance = new Random(seed);
    }

    public static void main(String[] args) {
        int runs = args.length > 0 ? Integer.parseInt(args[0]) : 500;
        int wrong = 0;
        long asked = 0;
        for (int seed = 1; seed <= runs && wrong < 3; seed++) {
            RandomRunsTest run = new RandomRunsTest(seed);
            run.go();
            asked += run.calls.size();
            if (run.wrong > 0) {
                wrong++;
                System.out.println("run " + seed + " is not as due");
            }
        }
        System.out.println(asked + " answers compared");
        if (wrong > 0) {
            System.exit(1);
        }
    }

    private int of(int n) {
        return chance.nextInt(n);
    }

    /** Mostly within, at times at an edge, beside it or far off. */
    private int any(int least, int most) {
        switch (of(24)) {
            case 0:
                return least - 1;
            case 1:
                return most + 1;
            case 2:
                return new int[] {Integer.MIN_VALUE, Integer.MAX_VALUE, -1000, 100000, -2}[of(5)];
            case 3:
                return least;
            case 4:
                return most;
            default:
                return least + of(Math.max(1, most - least + 1));
        }
    }

    private int small(int least, int most) {
        return of(3) > 0 ? any(least, Math.min(most, 30)) : any(least, most);
    }

    private int aKind() {
        return any(0, kinds - 1);
    }

    private int aPlace() {
        return any(0, islands);
    }

    private int anIsland() {
        return any(1, islands);
    }

    private void same(String call, long got, long want) {
        calls.add(call + " = " + want);
        if (got != want) {
            wrong++;
            if (wrong == 1) {
                for (String one : calls) {
                    System.out.println(one);
                }
                System.out.println("   but answered " + got);
            }
        }
    }

    private void same(String call, boolean got, boolean want) {
        same(call, got ? 1 : 0, want ? 1 : 0);
    }

    private void go() {
        for (int i = 0; i < 3 && kinds * islands == 0 && of(12) > 0; i++) {
            tell();
        }
        int style = of(4);
        while (calls.size() < 500 && wrong == 0) {
            if (of(90) == 0 && calls.size() < 350) {
                tell();
            } else if (of(8) == 0) {
                ask();
            } else if (style == 0) {
                sail();
            } else if (style == 1) {
                keepBooks();
            } else if (style == 2) {
                coins();
            } else {
                any();
            }
        }
    }

    private void any() {
        switch (of(5)) {
            case 0 -> sail();
            case 1 -> keepBooks();
            case 2 -> coins();
            case 3 -> small();
            default -> ask();
        }
    }

    private void tell() {
        String text = new Texts(chance).next();
        for (int at = 0; at < text.length(); at += 20) {
            int[] f = new int[5];
            for (int i = 0; i < 20; i++) {
                f[i / 4] = f[i / 4] << 8 | (at + i < text.length() ? text.charAt(at + i) & 255 : 32);
            }
            same("feed", x.feed(f[0], f[1], f[2], f[3], f[4]), y.feed(f[0], f[1], f[2], f[3], f[4]));
        }
        int back = of(10) == 0 ? any(0, 25) : text.length() % 20 == 0 ? 0 : 20 - text.length() % 20;
        same("back " + back, x.back(back), y.back(back));
        same("read [" + text + "]", x.read(), y.read());
        same("place", x.place(), y.place());
        kinds = y.count(0);
        islands = y.count(1);
        for (int what = 0; what < 12; what++) {
            same("count " + what, x.count(what), y.count(what));
        }
    }

    private void ask() {
        int place = aPlace();
        int island = anIsland();
        int kind = aKind();
        int month = any(0, 11);
        int what = any(0, 3);
        int slot = any(0, 1);
        switch (of(14)) {
            case 0 -> same("kind " + kind + " " + what, x.kind(kind, what), y.kind(kind, what));
            case 1 -> same("island " + place + " " + what, x.island(place, what), y.island(place, what));
            case 2 -> same("boat " + place + " " + month, x.boat(place, month), y.boat(place, month));
            case 3, 4 -> same("want " + island + " " + kind + " " + month,
                    x.want(island, kind, month), y.want(island, kind, month));
            case 5, 6 -> {
                int worn = any(-1, 3);
                same("has " + place + " " + kind + " " + worn, x.has(place, kind, worn), y.has(place, kind, worn));
            }
            case 7 -> same("lacks " + island + " " + kind, x.lacks(island, kind), y.lacks(island, kind));
            case 8 -> same("spent " + what, x.spent(what), y.spent(what));
            case 9, 10 -> {
                int n = any(0, 11);
                same("count " + n, x.count(n), y.count(n));
            }
            case 11 -> same("hold " + slot, x.hold(slot), y.hold(slot));
            case 12 -> same("restore " + slot, x.restore(slot), y.restore(slot));
            default -> same("place", x.place(), y.place());
        }
    }

    private void sail() {
        int place = aPlace();
        int island = anIsland();
        int kind = aKind();
        int worn = any(0, 3);
        switch (of(12)) {
            case 0, 1 -> {
                int n = small(1, 9999);
                same("strike " + kind + " " + n, x.strike(kind, n), y.strike(kind, n));
            }
            case 2 -> same("burn " + kind + " " + worn, x.burn(kind, worn), y.burn(kind, worn));
            case 3, 4 -> {
                int n = small(0, 9999);
                same("lay " + place + " " + kind + " " + worn + " " + n,
                        x.lay(place, kind, worn, n), y.lay(place, kind, worn, n));
            }
            case 5, 6, 7 -> {
                int time = of(8) == 0 ? any(0, 239) : any(y.count(7), Math.min(239, y.count(7) + 14));
                int n = of(10) == 0 ? any(1, 9999) : any(1, 12);
                boolean back = of(3) == 0;
                same("send " + time + " " + island + " " + kind + " " + n + " " + back,
                        x.send(time, island, kind, n, back), y.send(time, island, kind, n, back));
            }
            case 8 -> {
                int sending = any(0, y.count(5) - 1);
                same("done " + sending, x.done(sending), y.done(sending));
            }
            case 9 -> same("judge", x.judge(), y.judge());
            case 10 -> same("why", x.why(), y.why());
            default -> {
                int seed = of(3) == 0 ? chance.nextInt() : of(9);
                int k = of(4) == 0 ? any(1, 24) : any(1, 3);
                same("months " + seed + " " + k, x.months(seed, k), y.months(seed, k));
                lookAround();
            }
        }
    }

    private void lookAround() {
        for (int i = 0; i < 3; i++) {
            int place = of(islands + 1);
            int kind = of(Math.max(1, kinds));
            int worn = of(5) - 1;
            same("has " + place + " " + kind + " " + worn, x.has(place, kind, worn), y.has(place, kind, worn));
        }
        same("spent 0", x.spent(0), y.spent(0));
        int sending = of(41);
        same("done " + sending, x.done(sending), y.done(sending));
    }

    private void coins() {
        int place = aPlace();
        int island = anIsland();
        int kind = aKind();
        int month = any(0, 11);
        int set = any(0, (1 << islands) - 1);
        int q = any(0, 60);
        int k = any(1, 12);
        int d = any(0, 3);
        switch (of(13)) {
            case 0 -> {
                int n = any(0, of(4) == 0 ? 900 : 12);
                same("lay " + place + " " + kind + " 1 " + n, x.lay(place, kind, 1, n), y.lay(place, kind, 1, n));
            }
            case 1, 2 -> {
                int sum = small(1, 2000);
                int what = of(2) == 0 ? 0 : of(8) == 0 ? any(0, 30) : 10 + kind;
                same("pay " + place + " " + sum + " " + what, x.pay(place, sum, what), y.pay(place, sum, what));
            }
            case 3 -> {
                int sum = small(1, 2000);
                int h = any(0, 9);
                int what = of(3) == 0 ? 0 : of(8) == 0 ? any(0, 30) : 10 + 10 * of(2) + kind;
                same("change " + place + " " + sum + " " + h + " " + what,
                        x.change(place, sum, h, what), y.change(place, sum, h, what));
            }
            case 4 -> {
                int s = small(1, 400);
                int c = any(0, 99);
                same("which " + s + " " + c, x.which(s, c), y.which(s, c));
                same("whichSum " + s + " " + c, x.whichSum(s, c), y.whichSum(s, c));
            }
            case 5 -> same("least " + island + " " + kind + " " + month + " " + k + " " + q + " " + d,
                    x.least(island, kind, month, k, q, d), y.least(island, kind, month, k, q, d));
            case 6 -> same("order " + island + " " + kind + " " + month + " " + k + " " + q + " " + d,
                    x.order(island, kind, month, k, q, d), y.order(island, kind, month, k, q, d));
            case 7 -> same("price " + island + " " + kind + " " + month + " " + k + " " + q + " " + d,
                    x.price(island, kind, month, k, q, d), y.price(island, kind, month, k, q, d));
            case 8, 9 -> same("pool " + kind + " " + month + " " + set, x.pool(kind, month, set), y.pool(kind, month, set));
            case 10 -> same("saved " + kind + " " + month + " " + set, x.saved(kind, month, set), y.saved(kind, month, set));
            default -> holds(kind, month);
        }
    }

    private void holds(int kind, int month) {
        int[] p = new int[4];
        int all = Math.max(0, y.saved(kind, month, (1 << islands) - 1));
        for (int i = 0; i < 4; i++) {
            p[i] = of(3) == 0 ? any(0, 99) : of(2) == 0 ? all / 2 : i == 3 ? all : of(all + 1);
        }
        if (of(3) == 0 && islands > 0) {
            p[islands - 1] = all;
            for (int i = 0; i < islands - 1; i++) {
                p[i] = of(Math.max(1, p[islands - 1] + 1));
                p[islands - 1] -= p[i];
            }
        }
        same("holds " + kind + " " + month + " " + p[0] + " " + p[1] + " " + p[2] + " " + p[3],
                x.holds(kind, month, p[0], p[1], p[2], p[3]), y.holds(kind, month, p[0], p[1], p[2], p[3]));
    }

    private void keepBooks() {
        int island = anIsland();
        int kind = aKind();
        int n = of(3) == 0 ? any(0, y.count(6)) : y.count(6);
        int b = any(1, of(2) == 0 ? 20 : 501);
        switch (of(14)) {
            case 0, 1 -> {
                int many = small(0, 9999);
                boolean went = of(2) == 0;
                same("book " + island + " " + kind + " " + many + " " + went,
                        x.book(island, kind, many, went), y.book(island, kind, many, went));
            }
            case 2 -> {
                int many = of(4) == 0 ? any(0, 60) : any(0, 9);
                int bad = any(0, of(3) == 0 ? many : many / 2);
                same("looked " + island + " " + many + " " + bad, x.looked(island, many, bad), y.looked(island, many, bad));
            }
            case 3 -> {
                int row = any(0, y.count(6) - 1);
                same("annul " + row, x.annul(row), y.annul(row));
            }
            case 4 -> same("balance " + island + " " + kind + " " + n, x.balance(island, kind, n), y.balance(island, kind, n));
            case 5 -> same("richest " + n, x.richest(n), y.richest(n));
            case 6, 7 -> {
                int what = any(0, 2);
                same("jars " + island + " " + n + " " + b + " " + what, x.jars(island, n, b, what), y.jars(island, n, b, what));
            }
            case 8, 9 -> {
                int o = of(2) == 0 ? any(0, 99999) : any(0, 60);
                same("ends " + island + " " + n + " " + b + " " + o, x.ends(island, n, b, o), y.ends(island, n, b, o));
            }
            case 10, 11 -> same("whose " + n, x.whose(n), y.whose(n));
            default -> {
                boolean more = of(2) == 0;
                same("whoseWays " + island + " " + n + " " + more, x.whoseWays(island, n, more), y.whoseWays(island, n, more));
            }
        }
    }

    private void small() {
        int n = small(0, 9999);
        int a = any(0, 10);
        int w = any(0, 10);
        switch (of(4)) {
            case 0 -> {
                int m = any(0, 60);
                same("trickle " + n + " " + a + " " + w + " " + m, x.trickle(n, a, w, m), y.trickle(n, a, w, m));
            }
            case 1 -> {
                int out = small(0, 9999);
                same("trickled " + n + " " + a + " " + w + " " + out, x.trickled(n, a, w, out), y.trickled(n, a, w, out));
            }
            case 2 -> {
                int kind = aKind();
                int c = small(0, 99);
                int s = any(1, 12);
                same("burnAt " + kind + " " + c + " " + s, x.burnAt(kind, c, s), y.burnAt(kind, c, s));
            }
            default -> {
                int hereA = small(0, 9999);
                int hereB = any(0, 100);
                int thereA = small(0, 9999);
                int thereB = any(0, 100);
                int e = small(0, 9999);
                int f = small(0, 9999);
                same("sort " + n + " " + hereA + " " + hereB + " " + thereA + " " + thereB + " " + e + " " + f,
                        x.sort(n, hereA, hereB, thereA, thereB, e, f), y.sort(n, hereA, hereB, thereA, thereB, e, f));
            }
        }
    }
}
