import java.math.BigInteger;
import java.util.ArrayList;
import java.util.Arrays;
import java.util.HashMap;
import java.util.HashSet;
import java.util.List;
import java.util.Map;
import java.util.Set;

/** A second CoinBoats, written apart from the first and with other means, to compare answers with. */
final class Plain {
    private static final int NONE = -1;

    private static final class Fault extends RuntimeException {
        final int number;
        final int place;

        Fault(int number, int place) {
            this.number = number;
            this.place = place;
        }
    }

    private static final class DivisionByZero extends RuntimeException {
    }

    private interface E {
        int of(int month, int has, int worn, int noise);
    }

    private record Token(String sort, String text, int place) {
    }

    private record Rule(int place, int target, int kind, E e) {
    }

    private record Boat(int place, int month, int room, int cost, int fails) {
    }

    private static final class Text {
        final List<int[]> kinds = new ArrayList<>();
        final List<int[]> islands = new ArrayList<>();
        final List<Rule> wants = new ArrayList<>();
        final List<Rule> losses = new ArrayList<>();
        final List<Rule> flows = new ArrayList<>();
        final List<Rule> wears = new ArrayList<>();
        final List<Boat> boats = new ArrayList<>();
    }

    private static final class Sending {
        int time, place, kind, n, reason = -2;
        boolean back;

        Sending copy() {
            Sending s = new Sending();
            s.time = time;
            s.place = place;
            s.kind = kind;
            s.n = n;
            s.reason = reason;
            s.back = back;
            return s;
        }
    }

    private record Entry(char sort, int place, int kind, int n, int wrong) {
    }

    private static final class State {
        int[][][] pieces = new int[5][6][4];
        List<Sending> sendings = new ArrayList<>();
        List<Entry> books = new ArrayList<>();
        int time;
        long harm, boats, struck;
        int[][] lacks = new int[5][6];

        State copy() {
            State s = new State();
            s.pieces = copyOf(pieces);
            for (Sending one : sendings) {
                s.sendings.add(one.copy());
            }
            s.books.addAll(books);
            s.time = time;
            s.harm = harm;
            s.boats = boats;
            s.struck = struck;
            for (int p = 0; p < 5; p++) {
                s.lacks[p] = lacks[p].clone();
            }
            return s;
        }
    }

    private static int[][][] copyOf(int[][][] pieces) {
        int[][][] copy = new int[5][6][];
        for (int p = 0; p < 5; p++) {
            for (int k = 0; k < 6; k++) {
                copy[p][k] = pieces[p][k].clone();
            }
        }
        return copy;
    }

    private StringBuilder tape = new StringBuilder();
    private int faultPlace = NONE;
    private Text text = new Text();
    private State now = new State();
    private final State[] slots = new State[2];

    // ---- the text

    private static final class Parser {
        private static final Set<String> WORDS = new HashSet<>(Arrays.asList("kind", "island", "want", "lost",
                "flow", "house", "wear", "boat", "fails", "month", "has", "worn", "noise"));
        private final List<Token> tokens = new ArrayList<>();
        private int at;
        private final Text text = new Text();
        private final Map<String, Integer> kinds = new HashMap<>();
        private final Map<String, Integer> islands = new HashMap<>();
        private Fault meaning;
        private int depth;
        private final Map<String, Integer> told = new HashMap<>();

        Text parse(String source) {
            split(source);
            while (!peek().sort.equals("end")) {
                tell();
            }
            if (meaning != null) {
                throw meaning;
            }
            return text;
        }

        private void split(String s) {
            int i = 0;
            while (true) {
                while (i < s.length() && "\t\n\r ".indexOf(s.charAt(i)) >= 0) {
                    i++;
                }
                if (i == s.length()) {
                    tokens.add(new Token("end", "", i));
                    return;
                }
                int j = i;
                String sort;
                if (s.charAt(i) >= 'a' && s.charAt(i) <= 'z') {
                    while (j < s.length() && s.charAt(j) >= 'a' && s.charAt(j) <= 'z') {
                        j++;
                    }
                    String word = s.substring(i, j);
                    sort = j - i > 8 ? "none" : WORDS.contains(word) ? word : "NAME";
                } else if (s.charAt(i) >= '0' && s.charAt(i) <= '9') {
                    while (j < s.length() && s.charAt(j) >= '0' && s.charAt(j) <= '9') {
                        j++;
                    }
                    sort = j - i > 4 ? "none" : "INT";
                } else if (s.startsWith("==", i)) {
                    j = i + 2;
                    sort = "==";
                } else {
                    j = i + 1;
                    sort = ";=+-*/<()[]".contains(s.substring(i, j)) ? s.substring(i, j) : "none";
                }
                tokens.add(new Token(sort, s.substring(i, j), i));
                i = j;
            }
        }

        private Token peek() {
            return tokens.get(Math.min(at, tokens.size() - 1));
        }

        private boolean next(String sort) {
            return peek().sort.equals(sort);
        }

        private Token take(String... sorts) {
            Token token = peek();
            if (!Arrays.asList(sorts).contains(token.sort)) {
                throw new Fault(1, token.place);
            }
            if (at >= 400) {
                throw new Fault(2, token.place);
            }
            at++;
            return token;
        }

        private void means(int number, Token token) {
            if (meaning == null) {
                meaning = new Fault(number, token.place);
            }
        }

        private int number(int least, int most) {
            Token token = take("INT");
            int n = Integer.parseInt(token.text);
            if (n < least || n > most) {
                means(5, token);
            }
            return n;
        }

        private void newName(Map<String, Integer> names) {
            Token token = take("NAME");
            if (kinds.containsKey(token.text) || islands.containsKey(token.text)) {
                means(3, token);
            }
            names.put(token.text, names.size());
        }

        private int told(Map<String, Integer> names) {
            Token token = take("NAME");
            if (!names.containsKey(token.text)) {
                means(4, token);
                return 0;
            }
            return names.get(token.text);
        }

        private int placeTold() {
            if (next("house")) {
                take("house");
                return 0;
            }
            return told(islands) + 1;
        }

        private void tell() {
            Token first = peek();
            int most = switch (first.sort) {
                case "kind" -> 6;
                case "island" -> 4;
                case "want", "lost", "flow", "wear", "boat" -> 12;
                default -> throw new Fault(1, first.place);
            };
            if (told.merge(first.sort, 1, Integer::sum) > most) {
                throw new Fault(2, first.place);
            }
            take(first.sort);
            switch (first.sort) {
                case "kind" -> {
                    newName(kinds);
                    text.kinds.add(new int[] {number(1, 500), number(1, 20), number(0, 99)});
                }
                case "island" -> {
                    newName(islands);
                    text.islands.add(new int[] {number(0, 60), number(0, 99)});
                }
                case "want" -> text.wants.add(rule(told(islands) + 1, 0));
                case "lost" -> text.losses.add(rule(told(islands) + 1, 0));
                case "wear" -> text.wears.add(rule(0, 0));
                case "flow" -> {
                    int from = placeTold();
                    Token second = peek();
                    int to = placeTold();
                    if (from == to) {
                        means(5, second);
                    }
                    text.flows.add(rule(from, to));
                }
                default -> boat();
            }
            take(";");
        }

        private Rule rule(int place, int target) {
            int kind = told(kinds);
            take("=");
            E e = sum();
            return new Rule(place, target, kind, e);
        }

        private void boat() {
            int place = told(islands) + 1;
            Token token = peek();
            int month = number(0, 11);
            for (Boat b : text.boats) {
                if (b.place == place && b.month == month) {
                    means(3, token);
                }
            }
            int room = number(1, 999);
            int cost = number(0, 999);
            int fails = 0;
            if (next("fails")) {
                take("fails");
                fails = number(0, 10);
            } else if (!next(";")) {
                throw new Fault(1, peek().place);
            }
            text.boats.add(new Boat(place, month, room, cost, fails));
        }

        private E sum() {
            E left = product();
            while (next("+") || next("-")) {
                boolean plus = take("+", "-").sort.equals("+");
                E a = left;
                E b = product();
                left = (m, h, w, n) -> plus ? a.of(m, h, w, n) + b.of(m, h, w, n) : a.of(m, h, w, n) - b.of(m, h, w, n);
            }
            return left;
        }

        private E product() {
            E left = unit();
            while (next("*") || next("/")) {
                boolean times = take("*", "/").sort.equals("*");
                E a = left;
                E b = unit();
                left = (m, h, w, n) -> {
                    int x = a.of(m, h, w, n);
                    int y = b.of(m, h, w, n);
                    if (times) {
                        return x * y;
                    }
                    if (y == 0) {
                        throw new DivisionByZero();
                    }
                    return x / y;
                };
            }
            return left;
        }

        private E unit() {
            Token token = peek();
            boolean nests = token.sort.equals("(") || token.sort.equals("[");
            if (nests && depth == 6) {
                throw new Fault(2, token.place);
            }
            take("INT", "month", "has", "worn", "noise", "(", "[");
            switch (token.sort) {
                case "INT":
                    int value = Integer.parseInt(token.text);
                    return (m, h, w, n) -> value;
                case "month":
                    return (m, h, w, n) -> m;
                case "has":
                    return (m, h, w, n) -> h;
                case "worn":
                    return (m, h, w, n) -> w;
                case "noise":
                    return (m, h, w, n) -> n;
                default:
                    break;
            }
            depth++;
            E inner = sum();
            if (token.sort.equals("[")) {
                boolean same = take("<", "==").sort.equals("==");
                E a = inner;
                E b = sum();
                inner = (m, h, w, n) -> {
                    int x = a.of(m, h, w, n);
                    int y = b.of(m, h, w, n);
                    return (same ? x == y : x < y) ? 1 : 0;
                };
                take("]");
            } else {
                take(")");
            }
            depth--;
            return inner;
        }
    }

    private static int value(E e, int month, int has, int worn, int noise) {
        try {
            return e.of(month, has, worn, noise);
        } catch (DivisionByZero zero) {
            return 0;
        }
    }

    int feed(int a, int b, int c, int d, int e) {
        if (tape.length() + 20 > 2000) {
            return NONE;
        }
        for (int four : new int[] {a, b, c, d, e}) {
            for (int i = 3; i >= 0; i--) {
                tape.append((char) (four >>> 8 * i & 255));
            }
        }
        return tape.length();
    }

    int back(int n) {
        if (n < 0 || n > tape.length()) {
            return NONE;
        }
        tape.setLength(tape.length() - n);
        return tape.length();
    }

    int read() {
        String source = tape.toString();
        tape = new StringBuilder();
        try {
            text = new Parser().parse(source);
        } catch (Fault fault) {
            faultPlace = fault.place;
            return fault.number;
        }
        faultPlace = NONE;
        now = new State();
        slots[0] = null;
        slots[1] = null;
        return 0;
    }

    int place() {
        return faultPlace;
    }

    private boolean isKind(int kind) {
        return kind >= 0 && kind < text.kinds.size();
    }

    private boolean isPlace(int place) {
        return place >= 0 && place <= text.islands.size();
    }

    private boolean isIsland(int place) {
        return place != 0 && isPlace(place);
    }

    private static boolean in(long n, long least, long most) {
        return least <= n && n <= most;
    }

    int kind(int kind, int what) {
        return isKind(kind) && in(what, 0, 2) ? text.kinds.get(kind)[what] : NONE;
    }

    int island(int place, int what) {
        return isIsland(place) && in(what, 0, 1) ? text.islands.get(place - 1)[what] : NONE;
    }

    int boat(int place, int month) {
        if (!isIsland(place) || !in(month, 0, 11)) {
            return NONE;
        }
        return boatOf(place, month) < 0 ? -2 : boatOf(place, month);
    }

    private int boatOf(int place, int month) {
        for (Boat b : text.boats) {
            if (b.place == place && b.month == month) {
                return text.boats.indexOf(b);
            }
        }
        return -1;
    }

    int want(int place, int kind, int month) {
        if (!isIsland(place) || !isKind(kind) || !in(month, 0, 11)) {
            return NONE;
        }
        int wanted = 0;
        for (Rule w : text.wants) {
            if (w.place == place && w.kind == kind) {
                wanted = value(w.e, month, 0, 0, 0);
            }
        }
        return wanted < 0 ? 0 : wanted > 9999 ? 9999 : wanted;
    }

    // ---- pieces and months

    int strike(int kind, int n) {
        if (!isKind(kind) || !in(n, 1, 9999) || now.pieces[0][kind][0] + n > 999999) {
            return NONE;
        }
        now.pieces[0][kind][0] += n;
        now.struck += n * text.kinds.get(kind)[2];
        return all(now.pieces, 0, kind);
    }

    private static int all(int[][][] pieces, int place, int kind) {
        return Arrays.stream(pieces[place][kind]).sum();
    }

    int burn(int kind, int worn) {
        if (!isKind(kind) || !in(worn, 0, 3)) {
            return NONE;
        }
        int ahead = all(now.pieces, 0, kind);
        Arrays.fill(now.pieces[0][kind], worn, 4, 0);
        return ahead - all(now.pieces, 0, kind);
    }

    int lay(int place, int kind, int worn, int n) {
        if (!isPlace(place) || !isKind(kind) || !in(worn, 0, 3) || !in(n, 0, 9999)
                || now.pieces[place][kind][worn] + n > 999999) {
            return NONE;
        }
        return now.pieces[place][kind][worn] += n;
    }

    int has(int place, int kind, int worn) {
        if (!isPlace(place) || !isKind(kind) || !in(worn, -1, 3)) {
            return NONE;
        }
        return worn < 0 ? all(now.pieces, place, kind) : now.pieces[place][kind][worn];
    }

    int send(int time, int place, int kind, int n, boolean back) {
        if (!in(time, 0, 239) || time < now.time || !isIsland(place) || !isKind(kind) || !in(n, 1, 9999)
                || now.sendings.size() == 40) {
            return NONE;
        }
        Sending s = new Sending();
        s.time = time;
        s.place = place;
        s.kind = kind;
        s.n = n;
        s.back = back;
        now.sendings.add(s);
        return now.sendings.size() - 1;
    }

    int done(int sending) {
        return in(sending, 0, now.sendings.size() - 1) ? now.sendings.get(sending).reason : NONE;
    }

    /** Carries out what is due at a time, or stops at the first that isn't DONE, if so asked: its number. */
    private int sail(int time, List<Sending> sendings, int[][][] pieces, Integer seed, Set<Integer> sailed) {
        int[] weights = new int[12];
        for (int i = 0; i < sendings.size(); i++) {
            Sending s = sendings.get(i);
            if (s.time != time) {
                continue;
            }
            int b = boatOf(s.place, time % 12);
            int from = s.back ? s.place : 0;
            int to = s.back ? 0 : s.place;
            int weight = s.n * text.kinds.get(s.kind)[1];
            if (b < 0) {
                s.reason = 1;
            } else if (seed != null && lot(10, seed, 40 * time + b) < text.boats.get(b).fails) {
                s.reason = 2;
            } else if (weights[b] + weight > text.boats.get(b).room) {
                s.reason = 3;
            } else if (all(pieces, from, s.kind) < s.n) {
                s.reason = 4;
            } else {
                s.reason = 0;
                weights[b] += weight;
                sailed.add(b);
                for (int one = 0; one < s.n; one++) {
                    moveOne(pieces, from, to, s.kind, s.back);
                }
            }
            if (seed == null && s.reason != 0) {
                return i;
            }
        }
        return -2;
    }

    private static void moveOne(int[][][] pieces, int from, int to, int kind, boolean mostWorn) {
        int worn = mostWorn ? 3 : 0;
        while (pieces[from][kind][worn] == 0) {
            worn += mostWorn ? -1 : 1;
        }
        pieces[from][kind][worn]--;
        if (to >= 0) {
            pieces[to][kind][worn]++;
        }
    }

    private static int lot(int n, int seed, int which) {
        int h = seed;
        for (int it : new int[] {15, which}) {
            h = (h ^ it) * 1103515245 + 12345;
            h ^= h >>> 15;
        }
        return (h >>> 1) % n;
    }

    private int firstUndone(boolean reason) {
        int[][][] pieces = copyOf(now.pieces);
        List<Sending> sendings = now.copy().sendings;
        for (int time = now.time; time < 240; time++) {
            int i = sail(time, sendings, pieces, null, new HashSet<>());
            if (i >= 0) {
                return reason ? sendings.get(i).reason : i;
            }
        }
        return reason ? 0 : -2;
    }

    int judge() {
        return firstUndone(false);
    }

    int why() {
        return firstUndone(true);
    }

    private static int held(int n, int most) {
        return n < 0 ? 0 : n > most ? most : n;
    }

    private static boolean isLast(List<Rule> rules, Rule rule) {
        boolean last = false;
        for (Rule r : rules) {
            if (r == rule) {
                last = true;
            } else if (r.place == rule.place && r.kind == rule.kind) {
                last = false;
            }
        }
        return last;
    }

    private int month(int seed) {
        int month = now.time % 12;
        Set<Integer> sailed = new HashSet<>();
        sail(now.time, now.sendings, now.pieces, seed, sailed);
        for (int i = 0; i < text.flows.size(); i++) {
            Rule f = text.flows.get(i);
            int has = all(now.pieces, f.place, f.kind);
            int n = held(value(f.e, month, has, 0, lot(5, seed, 1000 + 40 * now.time + i)), has);
            for (int one = 0; one < n; one++) {
                moveOne(now.pieces, f.place, f.target, f.kind, true);
            }
        }
        for (Rule w : text.wears) {
            for (int p = 1; p <= text.islands.size() && isLast(text.wears, w); p++) {
                int[] row = now.pieces[p][w.kind];
                for (int worn = 2; worn >= 0; worn--) {
                    int n = held(value(w.e, month, row[worn], worn, 0), row[worn]);
                    row[worn] -= n;
                    row[worn + 1] += n;
                }
            }
        }
        for (Rule l : text.losses) {
            if (isLast(text.losses, l)) {
                int has = all(now.pieces, l.place, l.kind);
                int n = held(value(l.e, month, has, 0, 0), has);
                for (int one = 0; one < n; one++) {
                    moveOne(now.pieces, l.place, -1, l.kind, true);
                }
            }
        }
        int lacked = 0;
        for (Rule w : text.wants) {
            if (isLast(text.wants, w)) {
                int lacks = Math.max(want(w.place, w.kind, month) - all(now.pieces, w.place, w.kind), 0);
                now.lacks[w.place][w.kind] += lacks;
                now.harm += (long) lacks * text.islands.get(w.place - 1)[1];
                lacked += lacks;
            }
        }
        for (int b : sailed) {
            now.boats += text.boats.get(b).cost;
        }
        now.time++;
        return lacked;
    }

    int months(int seed, int k) {
        if (!in(k, 1, 24) || now.time + k > 240) {
            return NONE;
        }
        int lacked = 0;
        for (int i = 0; i < k; i++) {
            lacked += month(seed);
        }
        return lacked;
    }

    int lacks(int place, int kind) {
        return isIsland(place) && isKind(kind) ? now.lacks[place][kind] : NONE;
    }

    long spent(int what) {
        return switch (what) {
            case 0 -> now.harm + now.boats + now.struck;
            case 1 -> now.harm;
            case 2 -> now.boats;
            case 3 -> now.struck;
            default -> -1;
        };
    }

    // ---- coins: of each sum the best vector of pieces, compared as a whole

    private static int size(int[] v) {
        return Arrays.stream(v).sum();
    }

    private static boolean better(int[] a, int[] b) {
        if (b == null || size(a) != size(b)) {
            return b == null || size(a) < size(b);
        }
        return Arrays.compare(a, b) > 0;
    }

    /** Best vectors of all sums up to one, a KIND after the other. */
    private int[][] best(int[] tills, int most) {
        int kinds = text.kinds.size();
        int[][] best = new int[most + 1][];
        best[0] = new int[kinds];
        for (int k = 0; k < kinds; k++) {
            int[][] with = new int[most + 1][];
            int worth = text.kinds.get(k)[0];
            for (int s = 0; s <= most; s++) {
                for (int n = 0; n <= tills[k] && n * worth <= s; n++) {
                    int[] rest = best[s - n * worth];
                    if (rest != null) {
                        int[] v = rest.clone();
                        v[k] = n;
                        if (better(v, with[s])) {
                            with[s] = v;
                        }
                    }
                }
            }
            best = with;
        }
        return best;
    }

    private int[] tills(int place) {
        int[] tills = new int[text.kinds.size()];
        for (int k = 0; k < tills.length; k++) {
            tills[k] = all(now.pieces, place, k);
        }
        return tills;
    }

    int pay(int place, int sum, int what) {
        if (!isPlace(place) || !in(sum, 1, 2000) || what != 0 && !isKind(what - 10)) {
            return NONE;
        }
        int[] v = best(tills(place), sum)[sum];
        return v == null ? -2 : what == 0 ? size(v) : v[what - 10];
    }

    int change(int place, int sum, int h, int what) {
        if (!isPlace(place) || !in(sum, 1, 2000) || !in(h, 0, 9)
                || what != 0 && !isKind(what - 10) && !isKind(what - 20)) {
            return NONE;
        }
        int[] purse = new int[text.kinds.size()];
        Arrays.fill(purse, h);
        int[][] given = best(purse, 4000);
        int[][] comes = best(tills(place), 4000 - sum);
        int value = -1;
        int least = Integer.MAX_VALUE;
        for (int g = 4000; g >= sum; g--) {
            if (given[g] != null && comes[g - sum] != null && size(given[g]) + size(comes[g - sum]) <= least) {
                least = size(given[g]) + size(comes[g - sum]);
                value = g;
            }
        }
        if (value < 0) {
            return -2;
        }
        return what == 0 ? least : what < 20 ? given[value][what - 10] : comes[value - sum][what - 20];
    }

    private int[] bestSet(int s, int c) {
        int[] best = null;
        for (int set = 0; set < 1 << text.kinds.size(); set++) {
            int[] fewest = new int[s + 1];
            boolean one = false;
            int sum = 0;
            for (int k = 0; k < text.kinds.size(); k++) {
                one |= (set >> k & 1) == 1 && text.kinds.get(k)[0] == 1;
                sum += (set >> k & 1) * c;
            }
            for (int i = 1; i <= s && one; i++) {
                fewest[i] = Integer.MAX_VALUE;
                for (int k = 0; k < text.kinds.size(); k++) {
                    int worth = text.kinds.get(k)[0];
                    if ((set >> k & 1) == 1 && worth <= i) {
                        fewest[i] = Math.min(fewest[i], fewest[i - worth] + 1);
                    }
                }
                sum += fewest[i];
            }
            if (one && (best == null || sum < best[1])) {
                best = new int[] {set, sum};
            }
        }
        return best;
    }

    int which(int s, int c) {
        if (!in(s, 1, 400) || !in(c, 0, 99)) {
            return NONE;
        }
        int[] best = bestSet(s, c);
        return best == null ? -2 : best[0];
    }

    int whichSum(int s, int c) {
        return which(s, c) < 0 ? which(s, c) : bestSet(s, c)[1];
    }

    // ---- stocks

    /** The least cost from the i-th month on, over all ways, and how many come first. */
    private long[] plan(int place, int kind, int month, int i, int k, int stock, int d, Map<Integer, long[]> known) {
        if (i == k) {
            return new long[2];
        }
        long[] best = known.get(100 * i + stock);
        if (best != null) {
            return best;
        }
        int m = (month + i) % 12;
        int b = boatOf(place, m);
        long ways = BigInteger.valueOf(d + 1).pow(k - i).longValue();
        for (int n = 0; n <= 60; n++) {
            if (n > 0 && (b < 0 || n * text.kinds.get(kind)[1] > text.boats.get(b).room
                    || stock + n > text.islands.get(place - 1)[0])) {
                break;
            }
            long cost = n == 0 ? 0 : ways * (text.boats.get(b).cost + n * text.kinds.get(kind)[2]);
            for (int more = 0; more <= d; more++) {
                int wanted = want(place, kind, m) + more;
                long lacked = Math.max(0, wanted - stock - n);
                cost += lacked * text.islands.get(place - 1)[1] * (ways / (d + 1));
                cost += plan(place, kind, month, i + 1, k, Math.max(0, stock + n - wanted), d, known)[0];
            }
            if (best == null || cost < best[0]) {
                best = new long[] {cost, n};
            }
        }
        known.put(100 * i + stock, best);
        return best;
    }

    private boolean isPlan(int place, int kind, int month, int k, int q, int d) {
        return isIsland(place) && isKind(kind) && in(month, 0, 11) && in(k, 1, 12) && in(q, 0, 60) && in(d, 0, 3);
    }

    long least(int place, int kind, int month, int k, int q, int d) {
        return isPlan(place, kind, month, k, q, d) ? plan(place, kind, month, 0, k, q, d, new HashMap<>())[0] : -1;
    }

    int order(int place, int kind, int month, int k, int q, int d) {
        return isPlan(place, kind, month, k, q, d)
                ? (int) plan(place, kind, month, 0, k, q, d, new HashMap<>())[1] : NONE;
    }

    long price(int place, int kind, int month, int k, int q, int d) {
        if (!isPlan(place, kind, month, k, q, d) || q == 60) {
            return -1;
        }
        return least(place, kind, month, k, q, d) - least(place, kind, month, k, q + 1, d);
    }

    /** Piece by piece to where it saves the most HARM. */
    int pool(int kind, int month, int set) {
        if (!isKind(kind) || !in(month, 0, 11) || !in(set, 0, (1 << text.islands.size()) - 1)) {
            return NONE;
        }
        List<int[]> lacks = new ArrayList<>();
        int pieces = 0;
        for (int p = 1; p <= text.islands.size(); p++) {
            if ((set >> p - 1 & 1) == 1) {
                lacks.add(new int[] {text.islands.get(p - 1)[1], want(p, kind, month)});
                pieces += all(now.pieces, p, kind);
            }
        }
        lacks.sort((x, y) -> y[0] - x[0]);
        int harm = 0;
        for (int[] one : lacks) {
            while (one[1] > 0 && pieces > 0) {
                one[1]--;
                pieces--;
            }
            harm += one[0] * one[1];
        }
        return harm;
    }

    int saved(int kind, int month, int set) {
        int together = pool(kind, month, set);
        if (together == NONE) {
            return NONE;
        }
        int alone = 0;
        for (int p = 0; p < 4; p++) {
            alone += (set >> p & 1) == 1 ? pool(kind, month, 1 << p) : 0;
        }
        return alone - together;
    }

    int holds(int kind, int month, int a, int b, int c, int d) {
        long[] parts = {a, b, c, d};
        int islands = text.islands.size();
        if (!isKind(kind) || !in(month, 0, 11)) {
            return NONE;
        }
        for (int i = 0; i < islands; i++) {
            if (parts[i] < 0) {
                return NONE;
            }
        }
        long sum = 0;
        for (int set = 0; set < 1 << islands; set++) {
            sum = 0;
            for (int i = 0; i < islands; i++) {
                sum += (set >> i & 1) * parts[i];
            }
            if (saved(kind, month, set) > sum) {
                return set;
            }
        }
        return saved(kind, month, (1 << islands) - 1) == sum ? 0 : 16;
    }

    // ---- books

    private int enter(Entry entry) {
        if (now.books.size() == 60) {
            return NONE;
        }
        now.books.add(entry);
        return now.books.size() - 1;
    }

    int book(int place, int kind, int n, boolean went) {
        if (!isIsland(place) || !isKind(kind) || !in(n, 0, 9999)) {
            return NONE;
        }
        return enter(new Entry(went ? 'w' : 'c', place, kind, n, 0));
    }

    int looked(int place, int many, int wrong) {
        if (!isIsland(place) || !in(many, 0, 60) || !in(wrong, 0, 60) || wrong > many) {
            return NONE;
        }
        return enter(new Entry('f', place, 0, many, wrong));
    }

    int annul(int row) {
        if (!in(row, 0, now.books.size() - 1) || now.books.get(row).sort == 'v') {
            return NONE;
        }
        return enter(new Entry('v', 0, 0, row, 0));
    }

    private List<Entry> known(int n) {
        List<Entry> known = new ArrayList<>(now.books.subList(0, n));
        for (Entry e : now.books.subList(0, n)) {
            if (e.sort == 'v') {
                known.set(e.n, null);
            }
        }
        known.removeIf(e -> e == null);
        return known;
    }

    private boolean isKnown(int n) {
        return in(n, 0, now.books.size());
    }

    private int total(char sort, int place, int kind, int n) {
        int sum = 0;
        for (Entry e : known(n)) {
            sum += e.sort == sort && e.place == place && e.kind == kind ? e.n : 0;
        }
        return sum;
    }

    int balance(int place, int kind, int n) {
        if (!isIsland(place) || !isKind(kind) || !isKnown(n)) {
            return -1000000;
        }
        return total('w', place, kind, n) - total('c', place, kind, n);
    }

    int richest(int n) {
        if (!isKnown(n)) {
            return NONE;
        }
        int best = -2;
        int most = 0;
        for (int p = 1; p <= text.islands.size(); p++) {
            int value = 0;
            for (int k = 0; k < text.kinds.size(); k++) {
                value -= text.kinds.get(k)[0] * balance(p, k, n);
            }
            if (value > most) {
                most = value;
                best = p;
            }
        }
        return best;
    }

    private int off(int place, int n, int b, int k, int l) {
        int off = 0;
        for (int kind = 0; kind < text.kinds.size(); kind++) {
            int left = total('w', place, kind, n);
            left -= left * l / 10;
            if (text.kinds.get(kind)[0] < b) {
                left -= left * k / 10;
            }
            off += Math.abs(left - total('c', place, kind, n));
        }
        return off;
    }

    int jars(int place, int n, int b, int what) {
        if (!isIsland(place) || !isKnown(n) || !in(b, 1, 501) || !in(what, 0, 2)) {
            return NONE;
        }
        int[] best = {0, 0, Integer.MAX_VALUE};
        for (int k = 0; k <= 10; k++) {
            for (int l = 0; l <= 10; l++) {
                int off = off(place, n, b, k, l);
                if (off < best[2]) {
                    best = new int[] {k, l, off};
                }
            }
        }
        return best[what];
    }

    int ends(int place, int n, int b, int o) {
        if (!isIsland(place) || !isKnown(n) || !in(b, 1, 501) || !in(o, 0, 99999)) {
            return NONE;
        }
        List<Integer> ks = new ArrayList<>();
        for (int k = 0; k <= 10; k++) {
            for (int l = 0; l <= 10; l++) {
                if (off(place, n, b, k, l) <= o) {
                    ks.add(k);
                }
            }
        }
        return ks.isEmpty() ? -2 : 100 * ks.get(0) + ks.get(ks.size() - 1);
    }

    private static BigInteger choose(int n, int k) {
        if (k < 0 || k > n) {
            return BigInteger.ZERO;
        }
        BigInteger c = BigInteger.ONE;
        for (int i = 0; i < k; i++) {
            c = c.multiply(BigInteger.valueOf(n - i)).divide(BigInteger.valueOf(i + 1));
        }
        return c;
    }

    /** Of an island (0: all): how many were looked at, how many of these were false. */
    private int[] looks(int place, int n) {
        int[] looks = new int[2];
        for (Entry e : known(n)) {
            if (e.sort == 'f' && (place == 0 || e.place == place)) {
                looks[0] += e.n;
                looks[1] += e.wrong;
            }
        }
        return looks;
    }

    private BigInteger more(int place, int n) {
        int[] all = looks(0, n);
        int[] own = looks(place, n);
        BigInteger sum = BigInteger.ZERO;
        for (int j = own[1]; j <= own[0]; j++) {
            sum = sum.add(choose(all[1], j).multiply(choose(all[0] - all[1], own[0] - j)));
        }
        return sum;
    }

    private BigInteger ways(int place, int n) {
        return choose(looks(0, n)[0], looks(place, n)[0]);
    }

    int whose(int n) {
        if (!isKnown(n)) {
            return NONE;
        }
        int m = looks(0, n)[0];
        if (m == 0 || m > 60) {
            return -2;
        }
        int best = -2;
        for (int p = 1; p <= text.islands.size(); p++) {
            if (looks(p, n)[0] > 0 && (best < 0
                    || more(p, n).multiply(ways(best, n)).compareTo(more(best, n).multiply(ways(p, n))) < 0)) {
                best = p;
            }
        }
        return best;
    }

    long whoseWays(int place, int n, boolean more) {
        if (!isIsland(place) || !isKnown(n)) {
            return -1;
        }
        if (looks(0, n)[0] > 60 || looks(place, n)[0] == 0) {
            return -2;
        }
        return (more ? more(place, n) : ways(place, n)).longValueExact();
    }

    // ---- small ones

    private int[] trickling(int n, int a, int w, int months) {
        int came = 0;
        int out = n;
        for (int i = 0; i < months; i++) {
            int comes = (int) Math.ceil(out * a / 10.0);
            came += comes;
            out -= comes;
            out -= (int) Math.floor(out * w / 10.0);
        }
        return new int[] {came, out};
    }

    int trickle(int n, int a, int w, int m) {
        if (!in(n, 0, 9999) || !in(a, 0, 10) || !in(w, 0, 10) || !in(m, 0, 60)) {
            return NONE;
        }
        return trickling(n, a, w, m)[0];
    }

    int trickled(int n, int a, int w, int x) {
        if (!in(n, 0, 9999) || !in(a, 0, 10) || !in(w, 0, 10) || !in(x, 0, 9999)) {
            return NONE;
        }
        for (int m = 0; m <= 240; m++) {
            if (trickling(n, a, w, m)[1] <= x) {
                return m;
            }
        }
        return -2;
    }

    int burnAt(int kind, int c, int s) {
        if (!isKind(kind) || !in(c, 0, 99) || !in(s, 1, 12)) {
            return NONE;
        }
        int best = 0;
        long[] least = null;
        for (int j = 1; j <= 4; j++) {
            long cost = text.kinds.get(kind)[2];
            for (int month = 0; month < j * s; month++) {
                long worn = month / s;
                cost += worn * worn * c;
            }
            if (least == null || cost * least[1] < least[0] * j * s) {
                least = new long[] {cost, (long) j * s};
                best = j;
            }
        }
        return best;
    }

    int sort(int n, int hereA, int hereB, int thereA, int thereB, int e, int f) {
        if (!in(n, 0, 9999) || !in(hereA, 0, 9999) || !in(thereA, 0, 9999) || !in(e, 0, 9999) || !in(f, 0, 9999)
                || !in(hereB, 0, 100) || !in(thereB, 0, 100)) {
            return NONE;
        }
        BigInteger here = BigInteger.valueOf(n).multiply(BigInteger.valueOf(100L * hereA + (long) hereB * e));
        BigInteger there = BigInteger.valueOf(n).multiply(BigInteger.valueOf(100L * thereA + (long) thereB * e))
                .add(BigInteger.valueOf(100L * f));
        return here.compareTo(there) <= 0 ? 0 : 1;
    }

    boolean hold(int slot) {
        if (!in(slot, 0, 1)) {
            return false;
        }
        slots[slot] = now.copy();
        return true;
    }

    boolean restore(int slot) {
        if (!in(slot, 0, 1) || slots[slot] == null) {
            return false;
        }
        now = slots[slot].copy();
        return true;
    }

    int count(int what) {
        return switch (what) {
            case 0 -> text.kinds.size();
            case 1 -> text.islands.size();
            case 2 -> text.wants.size();
            case 3 -> text.flows.size();
            case 4 -> text.boats.size();
            case 5 -> now.sendings.size();
            case 6 -> now.books.size();
            case 7 -> now.time;
            case 8 -> tape.length();
            case 9 -> (slots[0] != null ? 1 : 0) + (slots[1] != null ? 1 : 0);
            case 10 -> text.losses.size();
            case 11 -> text.wears.size();
            default -> NONE;
        };
    }
}
