/** Coin to the islands: the face. What each call promises is told in ../shared/DOC.md. */
public final class CoinBoats {
    public static final int NONE = -1;

    private static final int NO_WAY = -2;
    private static final int YEAR = 12;
    private static final int WORNS = 4;
    private static final int MOST_KINDS = 6;
    private static final int MOST_ISLANDS = 4;
    private static final int MOST_BOATS = 12;
    private static final int MOST_BOOKS = 60;
    private static final int MOST_PIECES = 999999;
    private static final int MOST_AT_ONCE = 9999;
    private static final int LAST_TIME = 240;

    // The columns of rows. What stands of a PLACE and a KIND has these two first.
    private static final int PLACE = 0;
    private static final int KIND = 1;
    private static final int WORTH = 0;
    private static final int WEIGHT = 1;
    private static final int NEW = 2;
    private static final int SAFE = 0;
    private static final int HARM = 1;
    private static final int TARGET = 2;
    private static final int FROM = 3;
    private static final int UP_TO = 4;
    private static final int MONTH = 1;
    private static final int ROOM = 2;
    private static final int COST = 3;
    private static final int FAILS = 4;
    private static final int TIME = 2;
    private static final int MANY = 3;
    private static final int BACK = 4;
    private static final int REASON = 5;
    private static final int ENTRY = 2;
    private static final int WRONG = 4;

    // What a row of the BOOKS is.
    private static final int WENT = 0;
    private static final int CAME = 1;
    private static final int FALSE = 2;
    private static final int VOID = 3;

    private final byte[] tape = new byte[2000];
    private int bytes;
    private int faultPlace = NONE;
    private Text text = new Text();
    private Text spare = new Text();
    private final Reader reader = new Reader();
    private final State now = new State();
    private final State slotA = new State();
    private final State slotB = new State();
    private final Calendar calendar = new Calendar();
    private final Coins coins = new Coins();
    private final Stocks stocks = new Stocks();
    private final Ledger ledger = new Ledger();

    public CoinBoats() {
    }

    public int feed(int a, int b, int c, int d, int e) {
        if (bytes > tape.length - 20) {
            return NONE;
        }
        append(a);
        append(b);
        append(c);
        append(d);
        append(e);
        return bytes;
    }

    private void append(int four) {
        for (int shift = 24; shift >= 0; shift -= 8) {
            if (bytes >= 0 && bytes < tape.length) {
                tape[bytes] = (byte) (four >> shift);
                bytes++;
            }
        }
    }

    public int back(int n) {
        if (n < 0 || n > bytes) {
            return NONE;
        }
        bytes -= n;
        return bytes;
    }

    public int read() {
        int fault = reader.examine(tape, bytes, spare);
        faultPlace = reader.faultPlace();
        bytes = 0;
        if (fault != 0) {
            return fault;
        }
        Text old = text;
        text = spare;
        spare = old;
        now.clear();
        slotA.clear();
        slotB.clear();
        return 0;
    }

    public int place() {
        return faultPlace;
    }

    public int kind(int kind, int what) {
        boolean there = text.isKind(kind) && within(what, 0, 2);
        return there ? text.kinds.get(kind, what) : NONE;
    }

    public int island(int place, int what) {
        boolean there = text.isIsland(place) && within(what, 0, 1);
        return there ? text.islands.get(place - 1, what) : NONE;
    }

    public int boat(int place, int month) {
        if (!text.isIsland(place) || !isMonth(month)) {
            return NONE;
        }
        int boat = text.boatOf(place, month);
        return boat == NONE ? NO_WAY : boat;
    }

    public int want(int place, int kind, int month) {
        boolean there = isOf(place, kind) && isMonth(month);
        return there ? text.wanted(place, kind, month) : NONE;
    }

    public int strike(int kind, int n) {
        if (!text.isKind(kind) || !within(n, 1, MOST_AT_ONCE)
                || now.pieces.get(0, kind, 0) > MOST_PIECES - n) {
            return NONE;
        }
        now.pieces.add(0, kind, 0, n);
        now.spentNew += (long) n * text.kinds.get(kind, NEW);
        return now.pieces.all(0, kind);
    }

    public int burn(int kind, int worn) {
        if (!text.isKind(kind) || !within(worn, 0, WORNS - 1)) {
            return NONE;
        }
        int burnt = 0;
        for (int w = worn; w < WORNS; w++) {
            int n = now.pieces.get(0, kind, w);
            now.pieces.add(0, kind, w, -n);
            burnt += n;
        }
        return burnt;
    }

    public int lay(int place, int kind, int worn, int n) {
        if (!text.isPlace(place) || !text.isKind(kind) || !within(worn, 0, WORNS - 1)
                || !within(n, 0, MOST_AT_ONCE)
                || now.pieces.get(place, kind, worn) > MOST_PIECES - n) {
            return NONE;
        }
        now.pieces.add(place, kind, worn, n);
        return now.pieces.get(place, kind, worn);
    }

    public int has(int place, int kind, int worn) {
        if (!text.isPlace(place) || !text.isKind(kind) || !within(worn, NONE, WORNS - 1)) {
            return NONE;
        }
        return worn == NONE ? now.pieces.all(place, kind) : now.pieces.get(place, kind, worn);
    }

    public int send(int time, int place, int kind, int n, boolean back) {
        if (!within(time, now.time, LAST_TIME - 1) || !isOf(place, kind)
                || !within(n, 1, MOST_AT_ONCE) || now.sendings.isFull()) {
            return NONE;
        }
        int sending = now.sendings.add();
        now.sendings.put(sending, PLACE, place);
        now.sendings.put(sending, KIND, kind);
        now.sendings.put(sending, TIME, time);
        now.sendings.put(sending, MANY, n);
        now.sendings.put(sending, BACK, back ? 1 : 0);
        now.sendings.put(sending, REASON, NO_WAY);
        return sending;
    }

    public int done(int sending) {
        boolean there = sending >= 0 && sending < now.sendings.size();
        return there ? now.sendings.get(sending, REASON) : NONE;
    }

    public int judge() {
        return calendar.firstUndone(text, now);
    }

    public int why() {
        calendar.firstUndone(text, now);
        return calendar.reason();
    }

    public int months(int seed, int k) {
        if (!within(k, 1, 24) || now.time + k > LAST_TIME) {
            return NONE;
        }
        int lacked = 0;
        for (int i = 0; i < k; i++) {
            lacked += calendar.pass(text, now, seed);
        }
        return lacked;
    }

    public int lacks(int place, int kind) {
        return isOf(place, kind) ? now.lacked.get(place - 1, kind) : NONE;
    }

    public long spent(int what) {
        switch (what) {
            case 0:
                return now.spentHarm + now.spentBoats + now.spentNew;
            case 1:
                return now.spentHarm;
            case 2:
                return now.spentBoats;
            case 3:
                return now.spentNew;
            default:
                return NONE;
        }
    }

    public int pay(int place, int sum, int what) {
        if (!text.isPlace(place) || !isSum(sum) || (what != 0 && !text.isKind(what - 10))) {
            return NONE;
        }
        coins.look(text, now.pieces, place, 0);
        int pieces = coins.fewestOfTill(sum);
        if (pieces == NO_WAY || what == 0) {
            return pieces;
        }
        return coins.ofTill(sum, what - 10);
    }

    public int change(int place, int sum, int h, int what) {
        boolean given = text.isKind(what - 10);
        boolean comes = text.isKind(what - 20);
        if (!text.isPlace(place) || !isSum(sum) || !within(h, 0, 9)
                || (what != 0 && !given && !comes)) {
            return NONE;
        }
        coins.look(text, now.pieces, place, h);
        int value = coins.leastGiven(sum);
        if (value == NO_WAY) {
            return NO_WAY;
        }
        if (given) {
            return coins.ofPurse(value, what - 10);
        }
        return comes ? coins.ofTill(value - sum, what - 20) : coins.bothWays();
    }

    public int which(int s, int c) {
        if (!within(s, 1, 400) || !within(c, 0, 99)) {
            return NONE;
        }
        coins.look(text, now.pieces, 0, 0);
        return coins.bestSet(s, c);
    }

    public int whichSum(int s, int c) {
        int set = which(s, c);
        return set < 0 ? set : coins.sumOf(set, s, c);
    }

    public long least(int place, int kind, int month, int k, int q, int d) {
        if (!isPlan(place, kind, month, k, d) || !within(q, 0, 60)) {
            return NONE;
        }
        stocks.plan(text, place, kind, month, k, d);
        return stocks.cost(q);
    }

    public int order(int place, int kind, int month, int k, int q, int d) {
        if (!isPlan(place, kind, month, k, d) || !within(q, 0, 60)) {
            return NONE;
        }
        stocks.plan(text, place, kind, month, k, d);
        return stocks.brings(q);
    }

    public long price(int place, int kind, int month, int k, int q, int d) {
        if (!isPlan(place, kind, month, k, d) || !within(q, 0, 59)) {
            return NONE;
        }
        stocks.plan(text, place, kind, month, k, d);
        return stocks.cost(q) - stocks.cost(q + 1);
    }

    public int pool(int kind, int month, int set) {
        return isShare(kind, month, set) ? Stocks.harm(text, now.pieces, kind, month, set) : NONE;
    }

    public int saved(int kind, int month, int set) {
        return isShare(kind, month, set) ? Stocks.saving(text, now.pieces, kind, month, set) : NONE;
    }

    public int holds(int kind, int month, int a, int b, int c, int d) {
        if (!isShare(kind, month, 0)) {
            return NONE;
        }
        int islands = text.islands.size();
        if ((islands > 0 && a < 0) || (islands > 1 && b < 0)
                || (islands > 2 && c < 0) || (islands > 3 && d < 0)) {
            return NONE;
        }
        int all = (1 << islands) - 1;
        for (int set = 1; set <= all; set++) {
            if (Stocks.saving(text, now.pieces, kind, month, set) > sumOfParts(set, a, b, c, d)) {
                return set;
            }
        }
        int together = Stocks.saving(text, now.pieces, kind, month, all);
        return together == sumOfParts(all, a, b, c, d) ? 0 : 16;
    }

    private static long sumOfParts(int set, int a, int b, int c, int d) {
        long sum = 0;
        sum += (set & 1) != 0 ? a : 0;
        sum += (set & 2) != 0 ? b : 0;
        sum += (set & 4) != 0 ? c : 0;
        sum += (set & 8) != 0 ? d : 0;
        return sum;
    }

    public int book(int place, int kind, int n, boolean went) {
        if (!isOf(place, kind) || !within(n, 0, MOST_AT_ONCE)) {
            return NONE;
        }
        int row = now.books.add();
        now.books.put(row, PLACE, place);
        now.books.put(row, KIND, kind);
        now.books.put(row, ENTRY, went ? WENT : CAME);
        now.books.put(row, MANY, n);
        return row;
    }

    public int looked(int place, int many, int wrong) {
        if (!text.isIsland(place) || !within(many, 0, 60) || !within(wrong, 0, many)) {
            return NONE;
        }
        int row = now.books.add();
        now.books.put(row, PLACE, place);
        now.books.put(row, ENTRY, FALSE);
        now.books.put(row, MANY, many);
        now.books.put(row, WRONG, wrong);
        return row;
    }

    public int annul(int row) {
        if (row < 0 || row >= now.books.size() || now.books.get(row, ENTRY) == VOID) {
            return NONE;
        }
        int made = now.books.add();
        now.books.put(made, ENTRY, VOID);
        now.books.put(made, MANY, row);
        return made;
    }

    public int balance(int place, int kind, int n) {
        if (!isOf(place, kind) || !isKnown(n)) {
            return -1000000;
        }
        ledger.know(now.books, n);
        return ledger.went(place, kind) - ledger.came(place, kind);
    }

    public int richest(int n) {
        if (!isKnown(n)) {
            return NONE;
        }
        ledger.know(now.books, n);
        return ledger.gainer(text);
    }

    public int jars(int place, int n, int b, int what) {
        if (!isJars(place, n, b) || !within(what, 0, 2)) {
            return NONE;
        }
        ledger.know(now.books, n);
        int off = ledger.leastOff(text, place, b);
        switch (what) {
            case 0:
                return ledger.kept();
            case 1:
                return ledger.lost();
            default:
                return off;
        }
    }

    public int ends(int place, int n, int b, int o) {
        if (!isJars(place, n, b) || !within(o, 0, 99999)) {
            return NONE;
        }
        ledger.know(now.books, n);
        return ledger.keptEnds(text, place, b, o);
    }

    public int whose(int n) {
        if (!isKnown(n)) {
            return NONE;
        }
        ledger.know(now.books, n);
        return ledger.beyondLuck(text.islands.size());
    }

    public long whoseWays(int place, int n, boolean more) {
        if (!text.isIsland(place) || !isKnown(n)) {
            return NONE;
        }
        ledger.know(now.books, n);
        if (!ledger.isCountable() || ledger.seen(place) == 0) {
            return NO_WAY;
        }
        return more ? ledger.waysOfMore(place) : ledger.waysOfAll(place);
    }

    public int trickle(int n, int a, int w, int m) {
        if (!isTrickle(n, a, w) || !within(m, 0, 60)) {
            return NONE;
        }
        int out = n;
        int came = 0;
        for (int i = 0; i < m; i++) {
            int comes = comesBack(out, a);
            came += comes;
            out = stillOut(out - comes, w);
        }
        return came;
    }

    public int trickled(int n, int a, int w, int x) {
        if (!isTrickle(n, a, w) || !within(x, 0, MOST_AT_ONCE)) {
            return NONE;
        }
        int out = n;
        for (int i = 0; i <= 240; i++) {
            if (out <= x) {
                return i;
            }
            out = stillOut(out - comesBack(out, a), w);
        }
        return NO_WAY;
    }

    private static int comesBack(int out, int a) {
        return (out * a + 9) / 10;
    }

    private static int stillOut(int rest, int w) {
        return rest - rest * w / 10;
    }

    public int burnAt(int kind, int c, int s) {
        if (!text.isKind(kind) || !within(c, 0, 99) || !within(s, 1, 12)) {
            return NONE;
        }
        // All stages share the s of their j * s months, so cost by j decides.
        int cost = text.kinds.get(kind, NEW);
        int best = 1;
        int bestCost = cost;
        for (int stage = 2; stage <= WORNS; stage++) {
            cost += s * (stage - 1) * (stage - 1) * c;
            if (cost * best < bestCost * stage) {
                best = stage;
                bestCost = cost;
            }
        }
        return best;
    }

    public int sort(int n, int hereA, int hereB, int thereA, int thereB, int e, int f) {
        if (!within(n, 0, MOST_AT_ONCE) || !within(e, 0, MOST_AT_ONCE)
                || !within(f, 0, MOST_AT_ONCE) || !within(hereA, 0, MOST_AT_ONCE)
                || !within(thereA, 0, MOST_AT_ONCE) || !within(hereB, 0, 100)
                || !within(thereB, 0, 100)) {
            return NONE;
        }
        long here = (long) n * (100 * hereA + hereB * e);
        long there = (long) n * (100 * thereA + thereB * e) + 100 * f;
        return there < here ? 1 : 0;
    }

    public boolean hold(int slot) {
        if (!within(slot, 0, 1)) {
            return false;
        }
        State held = slot == 0 ? slotA : slotB;
        held.copy(now);
        held.isHeld = true;
        return true;
    }

    public boolean restore(int slot) {
        State held = slot == 0 ? slotA : slotB;
        if (!within(slot, 0, 1) || !held.isHeld) {
            return false;
        }
        now.copy(held);
        return true;
    }

    public int count(int what) {
        switch (what) {
            case 0:
                return text.kinds.size();
            case 1:
                return text.islands.size();
            case 2:
                return text.wants.size();
            case 3:
                return text.flows.size();
            case 4:
                return text.boats.size();
            case 5:
                return now.sendings.size();
            case 6:
                return now.books.size();
            case 7:
                return now.time;
            case 8:
                return bytes;
            case 9:
                return (slotA.isHeld ? 1 : 0) + (slotB.isHeld ? 1 : 0);
            case 10:
                return text.losses.size();
            case 11:
                return text.wears.size();
            default:
                return NONE;
        }
    }

    private boolean isOf(int place, int kind) {
        return text.isIsland(place) && text.isKind(kind);
    }

    private boolean isKnown(int n) {
        return within(n, 0, now.books.size());
    }

    private boolean isPlan(int place, int kind, int month, int k, int d) {
        return isOf(place, kind) && isMonth(month) && within(k, 1, 12) && within(d, 0, 3);
    }

    private boolean isShare(int kind, int month, int set) {
        return text.isKind(kind) && isMonth(month)
                && within(set, 0, (1 << text.islands.size()) - 1);
    }

    private boolean isJars(int place, int n, int b) {
        return text.isIsland(place) && isKnown(n) && within(b, 1, 501);
    }

    private static boolean isTrickle(int n, int a, int w) {
        return within(n, 0, MOST_AT_ONCE) && within(a, 0, 10) && within(w, 0, 10);
    }

    private static boolean isSum(int sum) {
        return within(sum, 1, 2000);
    }

    private static boolean isMonth(int month) {
        return within(month, 0, YEAR - 1);
    }

    private static boolean within(int n, int least, int most) {
        return n >= least && n <= most;
    }

    private static int limit(int n, int most) {
        return Math.max(0, Math.min(n, most));
    }

    /** Rows of ints, up to so many. What lies outside them is 0, and nothing is put there. */
    static final class Rows {
        private final int most;
        private final int width;
        private final int[] cells;
        private int size;

        Rows(int most, int width) {
            this.most = Math.max(0, most);
            this.width = Math.max(0, width);
            this.cells = new int[Math.max(0, this.most * this.width)];
        }

        int size() {
            return size;
        }

        boolean isFull() {
            return size >= most;
        }

        int add() {
            if (isFull()) {
                return NONE;
            }
            size++;
            for (int column = 0; column < width; column++) {
                put(size - 1, column, 0);
            }
            return size - 1;
        }

        int get(int row, int column) {
            int cell = cell(row, column);
            return cell >= 0 && cell < cells.length ? cells[cell] : 0;
        }

        void put(int row, int column, int value) {
            int cell = cell(row, column);
            if (cell >= 0 && cell < cells.length) {
                cells[cell] = value;
            }
        }

        private int cell(int row, int column) {
            boolean inside = row >= 0 && row < size && column >= 0 && column < width;
            return inside ? row * width + column : NONE;
        }

        void clear() {
            size = 0;
        }

        /** As many rows as there can be, all of zeros. */
        void zero() {
            size = most;
            for (int i = 0; i < cells.length; i++) {
                cells[i] = 0;
            }
        }

        void copy(Rows other) {
            size = Math.min(other.size, most);
            for (int i = 0; i < cells.length && i < other.cells.length; i++) {
                cells[i] = other.cells[i];
            }
        }
    }

    /** The Es of a text, each a stretch of steps that work on a stack. */
    static final class Formulas {
        static final int NUMBER = 0;
        static final int MONTH_VAR = 1;
        static final int HAS_VAR = 2;
        static final int WORN_VAR = 3;
        static final int NOISE_VAR = 4;

        // A step is what to do, and a number of 16 bits below it.
        private final int[] steps = new int[Tokens.MOST];
        private int size;
        private final int[] stack = new int[32];
        private int depth;
        private boolean dividedByZero;

        void clear() {
            size = 0;
        }

        int size() {
            return size;
        }

        void add(int sort, int number) {
            if (size >= 0 && size < steps.length) {
                steps[size] = (sort << 16) | (number & 65535);
                size++;
            }
        }

        int value(int from, int upTo, int month, int has, int worn, int noise) {
            depth = 0;
            dividedByZero = false;
            for (int i = Math.max(0, from); i < upTo && i < steps.length; i++) {
                switch (steps[i] >> 16) {
                    case NUMBER:
                        push(steps[i] & 65535);
                        break;
                    case MONTH_VAR:
                        push(month);
                        break;
                    case HAS_VAR:
                        push(has);
                        break;
                    case WORN_VAR:
                        push(worn);
                        break;
                    case NOISE_VAR:
                        push(noise);
                        break;
                    default:
                        int right = pop();
                        int left = pop();
                        push(joined(steps[i] >> 16, left, right));
                        break;
                }
            }
            int value = pop();
            return dividedByZero ? 0 : value;
        }

        private int joined(int sign, int left, int right) {
            switch (sign) {
                case '+':
                    return left + right;
                case '-':
                    return left - right;
                case '*':
                    return left * right;
                case '/':
                    if (right == 0) {
                        dividedByZero = true;
                        return 0;
                    }
                    return left / right;
                case '<':
                    return left < right ? 1 : 0;
                default:
                    return left == right ? 1 : 0;
            }
        }

        private void push(int value) {
            if (depth >= 0 && depth < stack.length) {
                stack[depth] = value;
                depth++;
            }
        }

        private int pop() {
            if (depth <= 0 || depth > stack.length) {
                return 0;
            }
            depth--;
            return stack[depth];
        }
    }

    /** What a text tells. */
    static final class Text {
        final Rows kinds = new Rows(MOST_KINDS, 3);
        final Rows islands = new Rows(MOST_ISLANDS, 2);
        final Rows wants = new Rows(12, 5);
        final Rows losses = new Rows(12, 5);
        final Rows flows = new Rows(12, 5);
        final Rows wears = new Rows(12, 5);
        final Rows boats = new Rows(MOST_BOATS, 5);
        final Formulas formulas = new Formulas();

        void clear() {
            kinds.clear();
            islands.clear();
            wants.clear();
            losses.clear();
            flows.clear();
            wears.clear();
            boats.clear();
            formulas.clear();
        }

        boolean isKind(int kind) {
            return kind >= 0 && kind < kinds.size();
        }

        boolean isIsland(int place) {
            return place >= 1 && place <= islands.size();
        }

        boolean isPlace(int place) {
            return place >= 0 && place <= islands.size();
        }

        int harmOf(int place) {
            return islands.get(place - 1, HARM);
        }

        int boatOf(int place, int month) {
            for (int i = 0; i < boats.size(); i++) {
                if (boats.get(i, PLACE) == place && boats.get(i, MONTH) == month) {
                    return i;
                }
            }
            return NONE;
        }

        int wanted(int place, int kind, int month) {
            int row = lastOf(wants, place, kind);
            return row == NONE ? 0 : limit(says(wants, row, month, 0, 0, 0), MOST_AT_ONCE);
        }

        /** Of several rows of the same two the last one told alone holds. */
        boolean isInForce(Rows rows, int row) {
            return lastOf(rows, rows.get(row, PLACE), rows.get(row, KIND)) == row;
        }

        private static int lastOf(Rows rows, int place, int kind) {
            for (int i = rows.size() - 1; i >= 0; i--) {
                if (rows.get(i, PLACE) == place && rows.get(i, KIND) == kind) {
                    return i;
                }
            }
            return NONE;
        }

        int says(Rows rows, int row, int month, int has, int worn, int noise) {
            int from = rows.get(row, FROM);
            int upTo = rows.get(row, UP_TO);
            return formulas.value(from, upTo, month, has, worn, noise);
        }
    }

    /** The TOKENS of a tape, up to its end, to what is none, or to the first one too many. */
    static final class Tokens {
        static final int MOST = 400;

        // The words in quotes, each as wide as WIDTH; a word's sort is its number.
        private static final String WORDS =
            "kind   island want   lost   flow   house  wear   boat   fails  month  has    worn   noise  ";
        private static final int WIDTH = 7;
        private static final int WORD_COUNT = 13;
        static final int KIND_WORD = 0;
        static final int ISLAND_WORD = 1;
        static final int WANT_WORD = 2;
        static final int LOST_WORD = 3;
        static final int FLOW_WORD = 4;
        static final int HOUSE_WORD = 5;
        static final int WEAR_WORD = 6;
        static final int BOAT_WORD = 7;
        static final int FAILS_WORD = 8;
        static final int MONTH_WORD = 9;
        static final int HAS_WORD = 10;
        static final int WORN_WORD = 11;
        static final int NOISE_WORD = 12;

        // A sign of one byte has its byte as its sort: all the others lie below.
        private static final String SIGNS = ";=+-*/<()[]";
        static final int NAME = 20;
        static final int INT = 21;
        static final int EQUAL = 22;
        static final int END = 23;
        static final int NO_TOKEN = 24;

        private final int[] sorts = new int[MOST + 1];
        private final int[] places = new int[MOST + 1];
        private final long[] values = new long[MOST + 1];
        private int size;
        private int at;
        private int length;
        private long value;

        void scan(byte[] tape, int bytes) {
            size = 0;
            at = 0;
            length = limit(bytes, tape.length);
            boolean goesOn = true;
            for (int i = 0; i < sorts.length && i < places.length && i < values.length && goesOn; i++) {
                skipBlanks(tape);
                places[i] = at;
                value = 0;
                sorts[i] = next(tape);
                values[i] = value;
                size = i + 1;
                goesOn = sorts[i] != END && sorts[i] != NO_TOKEN;
            }
        }

        int sortOf(int token) {
            boolean there = token >= 0 && token < size && token < sorts.length;
            return there ? sorts[token] : END;
        }

        int placeOf(int token) {
            boolean there = token >= 0 && token < size && token < places.length;
            return there ? places[token] : length;
        }

        /** An INT's number, a NAME's letters. */
        long valueOf(int token) {
            boolean there = token >= 0 && token < size && token < values.length;
            return there ? values[token] : 0;
        }

        private void skipBlanks(byte[] tape) {
            while (at < length && isBlank(byteAt(tape, at))) {
                at++;
            }
        }

        private int next(byte[] tape) {
            int first = byteAt(tape, at);
            if (first == NONE) {
                return END;
            }
            if (isLetter(first)) {
                return word(tape);
            }
            if (isDigit(first)) {
                return digits(tape);
            }
            at++;
            if (first == '=' && byteAt(tape, at) == '=') {
                at++;
                return EQUAL;
            }
            return SIGNS.indexOf((char) first) >= 0 ? first : NO_TOKEN;
        }

        private int word(byte[] tape) {
            int start = at;
            while (at < length && isLetter(byteAt(tape, at))) {
                value = (value << 5) | (byteAt(tape, at) - 'a' + 1);
                at++;
            }
            if (at - start > 8) {
                return NO_TOKEN;
            }
            for (int i = 0; i < WORD_COUNT; i++) {
                if (isWord(tape, start, i)) {
                    return i;
                }
            }
            return NAME;
        }

        private boolean isWord(byte[] tape, int start, int word) {
            int first = word * WIDTH;
            int letters = at - start;
            if (letters >= WIDTH || first < 0 || first + WIDTH > WORDS.length()) {
                return false;
            }
            for (int i = 0; i < WIDTH; i++) {
                int letter = i < letters ? byteAt(tape, start + i) : ' ';
                if (letter != WORDS.charAt(first + i)) {
                    return false;
                }
            }
            return true;
        }

        private int digits(byte[] tape) {
            int start = at;
            while (at < length && isDigit(byteAt(tape, at))) {
                value = value * 10 + byteAt(tape, at) - '0';
                at++;
            }
            return at - start > 4 ? NO_TOKEN : INT;
        }

        private int byteAt(byte[] tape, int i) {
            return i >= 0 && i < length && i < tape.length ? tape[i] & 255 : NONE;
        }

        private static boolean isBlank(int sign) {
            return sign == 9 || sign == 10 || sign == 13 || sign == 32;
        }

        private static boolean isLetter(int sign) {
            return sign >= 'a' && sign <= 'z';
        }

        private static boolean isDigit(int sign) {
            return sign >= '0' && sign <= '9';
        }
    }

    /** Reads a tape into a text, or finds its FAULT. */
    static final class Reader {
        private static final int SYNTAX = 1;
        private static final int NO_ROOM = 2;
        private static final int TWICE = 3;
        private static final int NAMELESS = 4;
        private static final int OUTSIDE = 5;
        private static final int MOST_NESTED = 6;

        private final Tokens tokens = new Tokens();
        private final long[] kindNames = new long[MOST_KINDS];
        private final long[] islandNames = new long[MOST_ISLANDS];
        private int at;
        private int fault;
        private int faultToken;
        // FAULTS 3 to 5 count only in a text without 1 and 2.
        private int laterFault;
        private int laterToken;

        int examine(byte[] tape, int bytes, Text text) {
            clearNames(kindNames);
            clearNames(islandNames);
            text.clear();
            tokens.scan(tape, bytes);
            at = 0;
            fault = 0;
            laterFault = 0;
            for (int i = 0; i < Tokens.MOST && fault == 0 && upcoming() != Tokens.END; i++) {
                tell(text, upcoming());
            }
            if (fault == 0) {
                fault = laterFault;
                faultToken = laterToken;
            }
            return fault;
        }

        int faultPlace() {
            return fault == 0 ? NONE : tokens.placeOf(faultToken);
        }

        private static void clearNames(long[] names) {
            for (int i = 0; i < names.length; i++) {
                names[i] = 0;
            }
        }

        private void tell(Text text, int first) {
            switch (first) {
                case Tokens.KIND_WORD:
                    tellKind(text.kinds);
                    break;
                case Tokens.ISLAND_WORD:
                    tellIsland(text.islands);
                    break;
                case Tokens.WANT_WORD:
                    tellOfIsland(text.wants);
                    equation(text.wants, text.formulas);
                    break;
                case Tokens.LOST_WORD:
                    tellOfIsland(text.losses);
                    equation(text.losses, text.formulas);
                    break;
                case Tokens.FLOW_WORD:
                    tellFlow(text.flows);
                    equation(text.flows, text.formulas);
                    break;
                case Tokens.WEAR_WORD:
                    tellWear(text.wears);
                    equation(text.wears, text.formulas);
                    break;
                case Tokens.BOAT_WORD:
                    tellBoat(text.boats, text);
                    break;
                default:
                    fail(SYNTAX);
                    break;
            }
        }

        private void tellKind(Rows kinds) {
            int row = open(kinds);
            newName(kindNames, row);
            kinds.put(row, WORTH, number(1, 500));
            kinds.put(row, WEIGHT, number(1, 20));
            kinds.put(row, NEW, number(0, 99));
            expect(';');
        }

        private void tellIsland(Rows islands) {
            int row = open(islands);
            newName(islandNames, row);
            islands.put(row, SAFE, number(0, 60));
            islands.put(row, HARM, number(0, 99));
            expect(';');
        }

        private void tellOfIsland(Rows rows) {
            int row = open(rows);
            rows.put(row, PLACE, placeTold(false));
            rows.put(row, KIND, kindTold());
        }

        private void tellFlow(Rows flows) {
            int row = open(flows);
            int first = placeTold(true);
            int token = at;
            int second = placeTold(true);
            if (first == second) {
                failLater(OUTSIDE, token);
            }
            flows.put(row, PLACE, first);
            flows.put(row, TARGET, second);
            flows.put(row, KIND, kindTold());
        }

        private void tellWear(Rows wears) {
            int row = open(wears);
            wears.put(row, KIND, kindTold());
        }

        private void tellBoat(Rows boats, Text text) {
            int row = open(boats);
            int island = placeTold(false);
            int token = at;
            int month = number(0, YEAR - 1);
            if (text.boatOf(island, month) != NONE) {
                failLater(TWICE, token);
            }
            boats.put(row, PLACE, island);
            boats.put(row, MONTH, month);
            boats.put(row, ROOM, number(1, 999));
            boats.put(row, COST, number(0, 999));
            if (upcoming() == Tokens.FAILS_WORD) {
                accept();
                boats.put(row, FAILS, number(0, 10));
            }
            expect(';');
        }

        /** Takes a TELL's first TOKEN; the new row's number. */
        private int open(Rows rows) {
            if (rows.isFull()) {
                fail(NO_ROOM);
            }
            accept();
            return fault == 0 ? rows.add() : NONE;
        }

        private void newName(long[] names, int row) {
            long name = tokens.valueOf(at);
            if (indexOf(kindNames, name) != NONE || indexOf(islandNames, name) != NONE) {
                failLater(TWICE, at);
            }
            expect(Tokens.NAME);
            if (row >= 0 && row < names.length) {
                names[row] = name;
            }
        }

        private int placeTold(boolean houseToo) {
            if (houseToo && upcoming() == Tokens.HOUSE_WORD) {
                accept();
                return 0;
            }
            int row = nameTold(indexOf(islandNames, tokens.valueOf(at)));
            return row == NONE ? NONE : row + 1;
        }

        private int kindTold() {
            return nameTold(indexOf(kindNames, tokens.valueOf(at)));
        }

        private int nameTold(int row) {
            if (row == NONE) {
                failLater(NAMELESS, at);
            }
            expect(Tokens.NAME);
            return row;
        }

        private static int indexOf(long[] names, long name) {
            for (int i = 0; i < names.length; i++) {
                if (names[i] == name && name != 0) {
                    return i;
                }
            }
            return NONE;
        }

        private int number(int least, int most) {
            int number = (int) tokens.valueOf(at);
            if (number < least || number > most) {
                failLater(OUTSIDE, at);
            }
            expect(Tokens.INT);
            return number;
        }

        /** The E of the latest row. */
        private void equation(Rows rows, Formulas formulas) {
            int row = rows.size() - 1;
            expect('=');
            rows.put(row, FROM, formulas.size());
            sum(formulas, 0);
            rows.put(row, UP_TO, formulas.size());
            expect(';');
        }

        private void sum(Formulas formulas, int nested) {
            product(formulas, nested);
            for (int i = 0; i < Tokens.MOST && (upcoming() == '+' || upcoming() == '-') && fault == 0; i++) {
                int sign = upcoming();
                accept();
                product(formulas, nested);
                formulas.add(sign, 0);
            }
        }

        private void product(Formulas formulas, int nested) {
            unit(formulas, nested);
            for (int i = 0; i < Tokens.MOST && (upcoming() == '*' || upcoming() == '/') && fault == 0; i++) {
                int sign = upcoming();
                accept();
                unit(formulas, nested);
                formulas.add(sign, 0);
            }
        }

        private void unit(Formulas formulas, int nested) {
            switch (upcoming()) {
                case Tokens.INT:
                    formulas.add(Formulas.NUMBER, (int) tokens.valueOf(at));
                    accept();
                    break;
                case Tokens.MONTH_WORD:
                    formulas.add(Formulas.MONTH_VAR, 0);
                    accept();
                    break;
                case Tokens.HAS_WORD:
                    formulas.add(Formulas.HAS_VAR, 0);
                    accept();
                    break;
                case Tokens.WORN_WORD:
                    formulas.add(Formulas.WORN_VAR, 0);
                    accept();
                    break;
                case Tokens.NOISE_WORD:
                    formulas.add(Formulas.NOISE_VAR, 0);
                    accept();
                    break;
                case '(':
                case '[':
                    nest(formulas, nested);
                    break;
                default:
                    fail(SYNTAX);
                    break;
            }
        }

        private void nest(Formulas formulas, int nested) {
            if (nested >= MOST_NESTED) {
                fail(NO_ROOM);
                return;
            }
            boolean compares = upcoming() == '[';
            accept();
            if (fault != 0) {
                return;
            }
            sum(formulas, nested + 1);
            if (compares) {
                int sign = upcoming();
                expect(sign == Tokens.EQUAL ? Tokens.EQUAL : '<');
                if (fault == 0) {
                    sum(formulas, nested + 1);
                    formulas.add(sign, 0);
                }
            }
            expect(compares ? ']' : ')');
        }

        private int upcoming() {
            return tokens.sortOf(at);
        }

        private void expect(int token) {
            if (tokens.sortOf(at) != token) {
                fail(SYNTAX);
            }
            accept();
        }

        /** Takes a TOKEN with which the text goes on. */
        private void accept() {
            if (fault == 0 && at >= Tokens.MOST) {
                fault = NO_ROOM;
                faultToken = at;
            }
            if (fault == 0) {
                at++;
            }
        }

        private void fail(int number) {
            if (fault == 0) {
                fault = number;
                faultToken = at;
            }
        }

        private void failLater(int number, int token) {
            if (laterFault == 0) {
                laterFault = number;
                laterToken = token;
            }
        }
    }

    /** How many there are of each PLACE, KIND and WORN. */
    static final class Pieces {
        private final Rows rows = new Rows((MOST_ISLANDS + 1) * MOST_KINDS, WORNS);

        Pieces() {
            rows.zero();
        }

        private static int row(int place, int kind) {
            return place * MOST_KINDS + kind;
        }

        int get(int place, int kind, int worn) {
            return rows.get(row(place, kind), worn);
        }

        int all(int place, int kind) {
            int sum = 0;
            for (int worn = 0; worn < WORNS; worn++) {
                sum += get(place, kind, worn);
            }
            return sum;
        }

        void add(int place, int kind, int worn, int n) {
            int row = row(place, kind);
            rows.put(row, worn, rows.get(row, worn) + n);
        }

        /** As worn as they are; to no PLACE (NONE): they are lost. */
        void move(int kind, int from, int target, int n, boolean mostWornFirst) {
            int left = n;
            for (int i = 0; i < WORNS; i++) {
                int worn = mostWornFirst ? WORNS - 1 - i : i;
                int moved = limit(left, get(from, kind, worn));
                add(from, kind, worn, -moved);
                if (target != NONE) {
                    add(target, kind, worn, moved);
                }
                left -= moved;
            }
        }

        void clear() {
            rows.zero();
        }

        void copy(Pieces other) {
            rows.copy(other.rows);
        }
    }

    /** All that a SLOT holds, but the text: that is the same for as long as a SLOT holds something. */
    static final class State {
        final Pieces pieces = new Pieces();
        final Rows sendings = new Rows(40, 6);
        final Rows books = new Rows(MOST_BOOKS, 5);
        final Rows lacked = new Rows(MOST_ISLANDS, MOST_KINDS);
        private int time;
        private long spentHarm;
        private long spentBoats;
        private long spentNew;
        private boolean isHeld;

        State() {
            lacked.zero();
        }

        void clear() {
            pieces.clear();
            sendings.clear();
            books.clear();
            lacked.zero();
            time = 0;
            spentHarm = 0;
            spentBoats = 0;
            spentNew = 0;
            isHeld = false;
        }

        void copy(State other) {
            pieces.copy(other.pieces);
            sendings.copy(other.sendings);
            books.copy(other.books);
            lacked.copy(other.lacked);
            time = other.time;
            spentHarm = other.spentHarm;
            spentBoats = other.spentBoats;
            spentNew = other.spentNew;
        }
    }

    /** Lets months go by, and judges SENDINGS. */
    static final class Calendar {
        private final Rows loads = new Rows(MOST_BOATS, 1);
        private final Pieces shadow = new Pieces();
        private int reason;

        int pass(Text text, State state, int seed) {
            sail(text, state, seed);
            flow(text, state, seed);
            wear(text, state);
            lose(text, state);
            int lacked = lack(text, state);
            state.time++;
            return lacked;
        }

        private void sail(Text text, State state, int seed) {
            loads.zero();
            for (int i = 0; i < state.sendings.size(); i++) {
                if (state.sendings.get(i, TIME) == state.time) {
                    int found = refusal(text, state.sendings, i, state.pieces, seed, true);
                    state.sendings.put(i, REASON, found);
                    if (found == 0) {
                        carry(text, state.sendings, i, state.pieces);
                    }
                }
            }
            for (int boat = 0; boat < text.boats.size(); boat++) {
                if (loads.get(boat, 0) > 0) {
                    state.spentBoats += text.boats.get(boat, COST);
                }
            }
        }

        private int refusal(Text text, Rows sendings, int row, Pieces pieces, int seed, boolean mayFail) {
            int time = sendings.get(row, TIME);
            int kind = sendings.get(row, KIND);
            int boat = text.boatOf(sendings.get(row, PLACE), time % YEAR);
            if (boat == NONE) {
                return 1;
            }
            if (mayFail && lot(10, seed, 40 * time + boat) < text.boats.get(boat, FAILS)) {
                return 2;
            }
            if (loads.get(boat, 0) + weight(text, sendings, row) > text.boats.get(boat, ROOM)) {
                return 3;
            }
            return pieces.all(start(sendings, row), kind) < sendings.get(row, MANY) ? 4 : 0;
        }

        private void carry(Text text, Rows sendings, int row, Pieces pieces) {
            boolean isBack = sendings.get(row, BACK) != 0;
            int island = sendings.get(row, PLACE);
            int boat = text.boatOf(island, sendings.get(row, TIME) % YEAR);
            loads.put(boat, 0, loads.get(boat, 0) + weight(text, sendings, row));
            pieces.move(sendings.get(row, KIND), start(sendings, row), isBack ? 0 : island,
                    sendings.get(row, MANY), isBack);
        }

        private static int start(Rows sendings, int row) {
            return sendings.get(row, BACK) != 0 ? sendings.get(row, PLACE) : 0;
        }

        private static int weight(Text text, Rows sendings, int row) {
            return text.kinds.get(sendings.get(row, KIND), WEIGHT) * sendings.get(row, MANY);
        }

        private static void flow(Text text, State state, int seed) {
            for (int i = 0; i < text.flows.size(); i++) {
                int from = text.flows.get(i, PLACE);
                int kind = text.flows.get(i, KIND);
                int there = state.pieces.all(from, kind);
                int noise = lot(5, seed, 1000 + 40 * state.time + i);
                int n = limit(text.says(text.flows, i, state.time % YEAR, there, 0, noise), there);
                state.pieces.move(kind, from, text.flows.get(i, TARGET), n, true);
            }
        }

        private static void wear(Text text, State state) {
            for (int i = 0; i < text.wears.size(); i++) {
                int islands = text.isInForce(text.wears, i) ? text.islands.size() : 0;
                for (int place = 1; place <= islands; place++) {
                    wearAt(text, state, i, place);
                }
            }
        }

        private static void wearAt(Text text, State state, int row, int place) {
            int kind = text.wears.get(row, KIND);
            for (int worn = WORNS - 2; worn >= 0; worn--) {
                int there = state.pieces.get(place, kind, worn);
                int n = limit(text.says(text.wears, row, state.time % YEAR, there, worn, 0), there);
                state.pieces.add(place, kind, worn, -n);
                state.pieces.add(place, kind, worn + 1, n);
            }
        }

        private static void lose(Text text, State state) {
            for (int i = 0; i < text.losses.size(); i++) {
                if (text.isInForce(text.losses, i)) {
                    int island = text.losses.get(i, PLACE);
                    int kind = text.losses.get(i, KIND);
                    int there = state.pieces.all(island, kind);
                    int n = limit(text.says(text.losses, i, state.time % YEAR, there, 0, 0), there);
                    state.pieces.move(kind, island, NONE, n, true);
                }
            }
        }

        private static int lack(Text text, State state) {
            int sum = 0;
            for (int island = 1; island <= text.islands.size(); island++) {
                for (int kind = 0; kind < text.kinds.size(); kind++) {
                    int wanted = text.wanted(island, kind, state.time % YEAR);
                    int lacked = Math.max(0, wanted - state.pieces.all(island, kind));
                    int ahead = state.lacked.get(island - 1, kind);
                    state.lacked.put(island - 1, kind, ahead + lacked);
                    state.spentHarm += (long) lacked * text.harmOf(island);
                    sum += lacked;
                }
            }
            return sum;
        }

        /** The first SENDING from now on that would not be DONE; its reason is kept. */
        int firstUndone(Text text, State state) {
            shadow.copy(state.pieces);
            for (int time = Math.max(0, state.time); time < LAST_TIME; time++) {
                loads.zero();
                for (int i = 0; i < state.sendings.size(); i++) {
                    if (state.sendings.get(i, TIME) == time) {
                        reason = refusal(text, state.sendings, i, shadow, 0, false);
                        if (reason != 0) {
                            return i;
                        }
                        carry(text, state.sendings, i, shadow);
                    }
                }
            }
            reason = 0;
            return NO_WAY;
        }

        int reason() {
            return reason;
        }

        private static int lot(int n, int seed, int number) {
            int rest = mixed(mixed(seed, 15), number) >>> 1;
            return n > 0 ? rest % n : 0;
        }

        private static int mixed(int h, int number) {
            int mixed = (h ^ number) * 1103515245 + 12345;
            return mixed ^ (mixed >>> 15);
        }
    }

    /** Pays SUMS with the fewest pieces, and looks for the KINDS with which that takes the fewest. */
    static final class Coins {
        private static final int MOST_GIVEN = 4000;
        // More than any pieces that a SUM can take.
        private static final int NOT_PAID = 1 << 20;
        private static final int TILL = 1;
        private static final int PURSE = 2;

        private final int[] given = new int[MOST_GIVEN + 1];
        private final int[] comes = new int[MOST_GIVEN + 1];
        // Of each KIND: its WORTH, what the PLACE has, what who pays has.
        private final Rows tills = new Rows(MOST_KINDS, 3);
        private int pieces;

        void look(Text text, Pieces there, int place, int h) {
            tills.clear();
            for (int kind = 0; kind < text.kinds.size(); kind++) {
                int row = tills.add();
                tills.put(row, WORTH, text.kinds.get(kind, WORTH));
                tills.put(row, TILL, there.all(place, kind));
                tills.put(row, PURSE, h);
            }
        }

        /** How many pieces the till pays a sum with. */
        int fewestOfTill(int sum) {
            fill(comes, TILL, 0, sum);
            int fewest = at(comes, sum);
            return fewest < NOT_PAID ? fewest : NO_WAY;
        }

        int ofTill(int sum, int kind) {
            return ofKind(comes, TILL, sum, kind);
        }

        int ofPurse(int sum, int kind) {
            return ofKind(given, PURSE, sum, kind);
        }

        /** What is given, so that the fewest pieces go both ways. */
        int leastGiven(int sum) {
            fill(given, PURSE, 0, MOST_GIVEN);
            fill(comes, TILL, 0, MOST_GIVEN - sum);
            int best = NO_WAY;
            pieces = NOT_PAID;
            for (int value = Math.max(0, sum); value <= MOST_GIVEN; value++) {
                int both = at(given, value) + at(comes, value - sum);
                if (both < pieces) {
                    pieces = both;
                    best = value;
                }
            }
            return best;
        }

        /** The pieces of the latest leastGiven. */
        int bothWays() {
            return pieces;
        }

        int bestSet(int s, int c) {
            int best = NO_WAY;
            int bestSum = 0;
            for (int set = 1; set < 1 << tills.size(); set++) {
                if (hasOne(set)) {
                    int sum = sumOf(set, s, c);
                    if (best == NO_WAY || sum < bestSum) {
                        best = set;
                        bestSum = sum;
                    }
                }
            }
            return best;
        }

        private boolean hasOne(int set) {
            for (int kind = 0; kind < tills.size(); kind++) {
                if ((set >> kind & 1) != 0 && tills.get(kind, WORTH) == 1) {
                    return true;
                }
            }
            return false;
        }

        /** The pieces of all SUMS up to s with endless tills, and c for each KIND. */
        int sumOf(int set, int s, int c) {
            clear(given, s);
            for (int kind = 0; kind < tills.size(); kind++) {
                if ((set >> kind & 1) != 0) {
                    addEndless(given, tills.get(kind, WORTH), s);
                }
            }
            int sum = c * Integer.bitCount(set);
            for (int i = 1; i <= s; i++) {
                sum += at(given, i);
            }
            return sum;
        }

        /** How many of a KIND, when of the fewest ways the one with the most of the first KINDS is taken. */
        private int ofKind(int[] row, int column, int sum, int kind) {
            fill(row, column, 0, sum);
            int left = sum;
            int fewest = at(row, sum);
            int taken = 0;
            for (int i = 0; i <= kind && i < tills.size(); i++) {
                fill(row, column, i + 1, left);
                taken = mostOf(row, column, i, left, fewest);
                left -= taken * tills.get(i, WORTH);
                fewest -= taken;
            }
            return taken;
        }

        private int mostOf(int[] row, int column, int kind, int sum, int fewest) {
            int worth = tills.get(kind, WORTH);
            if (worth < 1) {
                return 0;
            }
            for (int n = Math.min(tills.get(kind, column), sum / worth); n > 0; n--) {
                if (at(row, sum - n * worth) + n == fewest) {
                    return n;
                }
            }
            return 0;
        }

        /** The fewest pieces of a KIND and those behind it, for all sums up to one. */
        private void fill(int[] row, int column, int kind, int sum) {
            clear(row, sum);
            // No sum above this one is paid with the KINDS so far.
            int reach = 0;
            for (int i = Math.max(0, kind); i < tills.size(); i++) {
                int worth = tills.get(i, WORTH);
                int there = tills.get(i, column);
                if (worth >= 1 && there >= sum / worth) {
                    reach = sum;
                    addEndless(row, worth, sum);
                } else {
                    reach = Math.min(sum, reach + there * worth);
                    addLumps(row, worth, there, reach);
                }
            }
        }

        private static void clear(int[] row, int sum) {
            for (int i = 0; i <= sum && i < row.length; i++) {
                row[i] = i == 0 ? 0 : NOT_PAID;
            }
        }

        private static void addEndless(int[] row, int worth, int sum) {
            for (int i = Math.max(1, worth); i <= sum && i < row.length; i++) {
                row[i] = Math.min(row[i], at(row, i - worth) + 1);
            }
        }

        /** Lumps of 1, 2, 4, .. and the rest: their sums are all numbers of pieces up to n. */
        private static void addLumps(int[] row, int worth, int n, int sum) {
            int left = n;
            for (int lump = 1; left > 0 && lump <= MOST_GIVEN; lump *= 2) {
                int taken = Math.min(lump, left);
                int value = taken * worth;
                for (int i = Math.min(sum, row.length - 1); i >= Math.max(1, value); i--) {
                    row[i] = Math.min(row[i], at(row, i - value) + taken);
                }
                left -= taken;
            }
        }

        private static int at(int[] row, int i) {
            return i >= 0 && i < row.length ? row[i] : NOT_PAID;
        }
    }

    /** LEAST COIN by stocks, and what islands save together. */
    static final class Stocks {
        private static final int MOST = 60;

        private final long[] costs = new long[MOST + 1];
        private final long[] behindBoat = new long[MOST + 1];
        private final int[] orders = new int[MOST + 1];

        /** The costs and orders of all stocks to begin with, the last month first. */
        void plan(Text text, int place, int kind, int month, int k, int d) {
            for (int i = 0; i < costs.length && i < orders.length; i++) {
                costs[i] = 0;
                orders[i] = 0;
            }
            long ways = 1;
            for (int i = k - 1; i >= 0; i--) {
                int then = (month + i) % YEAR;
                takeWanted(text.wanted(place, kind, then), d, text.harmOf(place), ways);
                ways *= d + 1;
                chooseOrders(text, place, kind, then, ways);
            }
        }

        private void takeWanted(int wanted, int d, int harm, long ways) {
            for (int stock = 0; stock < behindBoat.length; stock++) {
                long sum = 0;
                for (int more = 0; more <= d; more++) {
                    int lacked = Math.max(0, wanted + more - stock);
                    sum += lacked * harm * ways + cost(Math.max(0, stock - wanted - more));
                }
                behindBoat[stock] = sum;
            }
        }

        private void chooseOrders(Text text, int place, int kind, int month, long ways) {
            int boat = text.boatOf(place, month);
            int weight = text.kinds.get(kind, WEIGHT);
            int room = boat == NONE || weight < 1 ? 0 : text.boats.get(boat, ROOM) / weight;
            int safe = text.islands.get(place - 1, SAFE);
            for (int stock = 0; stock < costs.length && stock < orders.length; stock++) {
                long best = behind(stock);
                int order = 0;
                for (int n = 1; n <= room && n <= safe - stock; n++) {
                    int fee = text.boats.get(boat, COST) + n * text.kinds.get(kind, NEW);
                    long cost = fee * ways + behind(stock + n);
                    if (cost < best) {
                        best = cost;
                        order = n;
                    }
                }
                costs[stock] = best;
                orders[stock] = order;
            }
        }

        private long behind(int stock) {
            return stock >= 0 && stock < behindBoat.length ? behindBoat[stock] : 0;
        }

        long cost(int stock) {
            return stock >= 0 && stock < costs.length ? costs[stock] : 0;
        }

        int brings(int stock) {
            return stock >= 0 && stock < orders.length ? orders[stock] : 0;
        }

        static int saving(Text text, Pieces pieces, int kind, int month, int set) {
            int alone = 0;
            for (int island = 1; island <= text.islands.size(); island++) {
                if (isIn(set, island)) {
                    alone += harm(text, pieces, kind, month, 1 << (island - 1));
                }
            }
            return alone - harm(text, pieces, kind, month, set);
        }

        static int harm(Text text, Pieces pieces, int kind, int month, int set) {
            int left = 0;
            for (int island = 1; island <= text.islands.size(); island++) {
                left += isIn(set, island) ? pieces.all(island, kind) : 0;
            }
            int harm = 0;
            int unserved = set;
            for (int i = 0; i < MOST_ISLANDS; i++) {
                int island = mostHarmed(text, unserved);
                if (island != NONE) {
                    int wanted = text.wanted(island, kind, month);
                    int taken = Math.min(left, wanted);
                    left -= taken;
                    harm += (wanted - taken) * text.harmOf(island);
                    unserved &= ~(1 << (island - 1));
                }
            }
            return harm;
        }

        private static int mostHarmed(Text text, int set) {
            int best = NONE;
            for (int island = 1; island <= text.islands.size(); island++) {
                if (isIn(set, island) && (best == NONE || text.harmOf(island) > text.harmOf(best))) {
                    best = island;
                }
            }
            return best;
        }

        private static boolean isIn(int set, int island) {
            return (set >> (island - 1) & 1) != 0;
        }
    }

    /** What the BOOKS tell, as far as they are KNOWN. */
    static final class Ledger {
        private static final int MOST_SEEN = 60;
        private static final int SEEN = 0;
        private static final int TAKEN = 1;

        private final Rows went = new Rows(MOST_ISLANDS + 1, MOST_KINDS);
        private final Rows came = new Rows(MOST_ISLANDS + 1, MOST_KINDS);
        // Of each island: how many were looked at, how many of these were false.
        private final Rows looks = new Rows(MOST_ISLANDS + 1, 2);
        private final Rows voided = new Rows(MOST_BOOKS, 1);
        private int allSeen;
        private int allFalse;
        private int kept;
        private int lost;

        void know(Rows books, int n) {
            went.zero();
            came.zero();
            looks.zero();
            voided.zero();
            allSeen = 0;
            allFalse = 0;
            for (int i = 0; i < n && i < books.size(); i++) {
                if (books.get(i, ENTRY) == VOID) {
                    voided.put(books.get(i, MANY), 0, 1);
                }
            }
            for (int i = 0; i < n && i < books.size(); i++) {
                if (voided.get(i, 0) == 0) {
                    enter(books, i);
                }
            }
        }

        private void enter(Rows books, int row) {
            int many = books.get(row, MANY);
            int island = books.get(row, PLACE);
            switch (books.get(row, ENTRY)) {
                case WENT:
                    add(went, island, books.get(row, KIND), many);
                    break;
                case CAME:
                    add(came, island, books.get(row, KIND), many);
                    break;
                case FALSE:
                    add(looks, island, SEEN, many);
                    add(looks, island, TAKEN, books.get(row, WRONG));
                    allSeen += many;
                    allFalse += books.get(row, WRONG);
                    break;
                default:
                    break;
            }
        }

        private static void add(Rows rows, int row, int column, int n) {
            rows.put(row, column, rows.get(row, column) + n);
        }

        int went(int island, int kind) {
            return went.get(island, kind);
        }

        int came(int island, int kind) {
            return came.get(island, kind);
        }

        int gainer(Text text) {
            int best = NO_WAY;
            long most = 0;
            for (int island = 1; island <= text.islands.size(); island++) {
                long more = 0;
                for (int kind = 0; kind < text.kinds.size(); kind++) {
                    long pieces = came(island, kind) - went(island, kind);
                    more += pieces * text.kinds.get(kind, WORTH);
                }
                if (more > most) {
                    most = more;
                    best = island;
                }
            }
            return best;
        }

        /** The OFF of THE JARS; their k and l are kept. */
        int leastOff(Text text, int island, int b) {
            int best = NONE;
            for (int k = 0; k <= 10; k++) {
                for (int l = 0; l <= 10; l++) {
                    int off = off(text, island, b, k, l);
                    if (best == NONE || off < best) {
                        best = off;
                        kept = k;
                        lost = l;
                    }
                }
            }
            return best;
        }

        int kept() {
            return kept;
        }

        int lost() {
            return lost;
        }

        int keptEnds(Text text, int island, int b, int most) {
            int first = NONE;
            int last = NONE;
            for (int k = 0; k <= 10; k++) {
                if (isNear(text, island, b, k, most)) {
                    first = first == NONE ? k : first;
                    last = k;
                }
            }
            return first == NONE ? NO_WAY : 100 * first + last;
        }

        private boolean isNear(Text text, int island, int b, int k, int most) {
            for (int l = 0; l <= 10; l++) {
                if (off(text, island, b, k, l) <= most) {
                    return true;
                }
            }
            return false;
        }

        private int off(Text text, int island, int b, int k, int l) {
            int off = 0;
            for (int kind = 0; kind < text.kinds.size(); kind++) {
                int all = went(island, kind);
                int rest = all - all * l / 10;
                boolean isSmall = text.kinds.get(kind, WORTH) < b;
                int due = isSmall ? rest - rest * k / 10 : rest;
                off += Math.abs(due - came(island, kind));
            }
            return off;
        }

        boolean isCountable() {
            return allSeen >= 1 && allSeen <= MOST_SEEN;
        }

        int seen(int island) {
            return looks.get(island, SEEN);
        }

        /** The island whose false ones are the least luck. */
        int beyondLuck(int islands) {
            int best = NO_WAY;
            for (int island = 1; island <= islands && isCountable(); island++) {
                if (seen(island) > 0 && (best == NO_WAY || isLessLuck(island, best))) {
                    best = island;
                }
            }
            return best;
        }

        /** Compares whole numbers, then the rests upside down, as cross products would overflow. */
        private boolean isLessLuck(int island, int other) {
            long a = waysOfMore(island);
            long b = waysOfAll(island);
            long c = waysOfMore(other);
            long d = waysOfAll(other);
            boolean upright = true;
            for (int i = 0; i < 1000 && b > 0 && d > 0; i++) {
                long first = a / b;
                long second = c / d;
                if (first != second) {
                    return upright == first < second;
                }
                long restA = a - first * b;
                long restC = c - second * d;
                a = b;
                b = restA;
                c = d;
                d = restC;
                upright = !upright;
            }
            // A part without a rest is the lesser one here, upside down again the greater one.
            if (b <= 0 && d <= 0) {
                return false;
            }
            return upright == (d <= 0);
        }

        long waysOfMore(int island) {
            int taken = seen(island);
            long sum = 0;
            for (int n = looks.get(island, TAKEN); n <= allFalse; n++) {
                sum += ways(allFalse, n) * ways(allSeen - allFalse, taken - n);
            }
            return sum;
        }

        long waysOfAll(int island) {
            return ways(allSeen, seen(island));
        }

        private static long ways(int n, int taken) {
            if (taken < 0 || taken > n) {
                return 0;
            }
            long ways = 1;
            for (int i = 1; i <= taken; i++) {
                ways = ways * (n - i + 1) / i;
            }
            return ways;
        }
    }
}
