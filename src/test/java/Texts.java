import java.util.Random;

/** Makes texts by chance: most without a FAULT, some with one or more. */
final class Texts {
    private static final String[] NAMES = {"a", "b", "c", "ab", "gold", "tin", "isle", "reef", "abcdefgh", "kinds",
        "ho", "z", "wantx", "m", "q", "cay", "skerry"};
    private final Random chance;
    private int kinds;
    private int islands;
    private String[] names;

    Texts(Random chance) {
        this.chance = chance;
    }

    private int of(int n) {
        return chance.nextInt(n);
    }

    private String blank() {
        return of(6) > 0 ? " " : new String[] {"  ", "\n", "\t", "\r\n"}[of(4)];
    }

    private String oneOf(String... texts) {
        return texts[of(texts.length)];
    }

    private int near(int least, int most) {
        return of(12) == 0 ? (of(2) == 0 ? least : most) : least + of(most - least + 1);
    }

    String next() {
        shuffleNames();
        StringBuilder text = new StringBuilder();
        kinds = of(8) == 0 ? of(3) : 1 + of(6);
        islands = of(8) == 0 ? of(2) : 1 + of(4);
        boolean hasOne = of(4) > 0;
        for (int i = 0; i < kinds; i++) {
            int worth = i == 0 && hasOne ? 1 : of(3) == 0 ? near(1, 500) : near(1, 30);
            text.append("kind ").append(names[i]).append(blank()).append(worth).append(blank())
                .append(near(1, of(2) == 0 ? 20 : 3)).append(blank()).append(near(0, 99)).append(";");
        }
        for (int i = 0; i < islands; i++) {
            text.append("island ").append(names[6 + i]).append(blank()).append(near(0, 60)).append(blank())
                .append(of(3) == 0 ? of(3) : near(0, 99)).append(";");
        }
        if (kinds > 0 && islands > 0) {
            rules(text);
        }
        return of(3) == 0 ? spoilt(text) : text.toString();
    }

    private void shuffleNames() {
        names = NAMES.clone();
        for (int i = names.length - 1; i > 0; i--) {
            int j = of(i + 1);
            String held = names[i];
            names[i] = names[j];
            names[j] = held;
        }
    }

    private void rules(StringBuilder text) {
        boolean[][] boats = new boolean[4][12];
        int boatsTold = 0;
        int rules = of(6) == 0 ? of(40) : of(18);
        for (int i = 0; i < rules && text.length() < 1700; i++) {
            String kind = names[of(kinds)];
            int place = of(islands);
            String island = names[6 + place];
            switch (of(6)) {
                case 0 -> text.append("want ").append(island).append(blank()).append(kind).append("=").append(sum(0)).append(";");
                case 1 -> text.append("lost ").append(island).append(blank()).append(kind).append("=").append(sum(0)).append(";");
                case 2 -> text.append("wear ").append(kind).append(blank()).append("=").append(sum(0)).append(";");
                case 3 -> {
                    int other = of(islands + 1);
                    String target = other == islands || other == place ? "house" : names[6 + other];
                    boolean turned = of(2) == 0;
                    text.append("flow ").append(turned ? target : island).append(blank()).append(turned ? island : target)
                        .append(blank()).append(kind).append("=").append(sum(0)).append(";");
                }
                default -> {
                    int month = of(12);
                    if (!boats[place][month] && boatsTold < 12) {
                        boats[place][month] = true;
                        boatsTold++;
                        text.append("boat ").append(island).append(blank()).append(month).append(blank())
                            .append(near(1, of(2) == 0 ? 60 : 999)).append(blank()).append(near(0, 999))
                            .append(of(3) == 0 ? " fails " + near(0, 10) : "").append(";");
                    }
                }
            }
        }
    }

    private String sum(int depth) {
        StringBuilder text = new StringBuilder(product(depth));
        while (of(4) == 0) {
            text.append(oneOf("+", "-", " + ", "- ")).append(product(depth));
        }
        return text.toString();
    }

    private String product(int depth) {
        StringBuilder text = new StringBuilder(unit(depth));
        while (of(4) == 0) {
            text.append(oneOf("*", "/", "*", " / ")).append(unit(depth));
        }
        return text.toString();
    }

    private String unit(int depth) {
        int most = depth >= 3 ? 7 : 10;
        switch (of(most)) {
            case 0:
                return "month";
            case 1:
                return "has";
            case 2:
                return "worn";
            case 3:
                return "noise";
            case 7:
                return "(" + sum(depth + 1) + ")";
            case 8:
                return "[" + sum(depth + 1) + "<" + sum(depth + 1) + "]";
            case 9:
                return "[" + sum(depth + 1) + "==" + sum(depth + 1) + "]";
            default:
                return String.valueOf(of(4) == 0 ? of(10000) : of(20));
        }
    }

    private String spoilt(StringBuilder text) {
        int changes = 1 + of(2);
        for (int i = 0; i < changes && text.length() > 1; i++) {
            int at = of(text.length());
            switch (of(11)) {
                case 0 -> text.deleteCharAt(at);
                case 1 -> text.insert(at, (char) of(256));
                case 2 -> text.setCharAt(at, ";=+-*/<()[] 0123456789abz".charAt(of(25)));
                case 3 -> text.insert(at, ";=+-*/<()[] 0123456789abz".charAt(of(25)));
                case 4 -> text.setLength(at);
                case 5 -> word(text, at);
                case 6, 7 -> put(text, at, false, names[of(names.length)]);
                case 8, 9 -> put(text, at, true, oneOf("0", "13", "12", "21", "61", "100", "501", "1000", "11", "999"));
                default -> repeat(text, at);
            }
        }
        if (text.length() > 2000) {
            text.setLength(2000);
        }
        return text.toString();
    }

    /** Another word in place of one. */
    private void word(StringBuilder text, int at) {
        put(text, at, false, oneOf("kind", "island", "want", "lost", "flow", "house", "wear", "boat", "fails",
            "month", "has", "worn", "noise", names[of(names.length)], names[of(10)]));
    }

    /** In place of the next run of letters (or of digits). */
    private void put(StringBuilder text, int at, boolean digits, String told) {
        int from = at;
        while (from < text.length() && !isOne(text.charAt(from), digits)) {
            from++;
        }
        int upTo = from;
        while (upTo < text.length() && isOne(text.charAt(upTo), digits)) {
            upTo++;
        }
        text.replace(from, upTo, told);
    }

    /** A stretch up to a semicolon told twice. */
    private void repeat(StringBuilder text, int at) {
        int from = text.lastIndexOf(";", at) + 1;
        int upTo = text.indexOf(";", from) + 1;
        if (upTo > from) {
            String told = text.substring(from, upTo);
            int times = of(4) == 0 ? 12 : 1;
            for (int i = 0; i < times; i++) {
                text.insert(upTo, told);
            }
        }
    }

    private static boolean isOne(char sign, boolean digit) {
        return digit ? sign >= '0' && sign <= '9' : sign >= 'a' && sign <= 'z';
    }
}
