import java.lang.reflect.Field;
import java.lang.reflect.Method;
import java.lang.reflect.Modifier;
import java.nio.file.Files;
import java.nio.file.Path;
import java.util.ArrayList;
import java.util.Arrays;
import java.util.List;
import java.util.Set;
import java.util.TreeSet;
import java.util.regex.Matcher;
import java.util.regex.Pattern;

/** What of ../shared/LANGUAGE.md and of the document's face can be seen from outside. */
public final class LanguageTest {
    private static final Check CHECK = new Check();
    private static final String FACE = "int annul(int); int back(int); int balance(int,int,int); int boat(int,int); "
        + "int book(int,int,int,boolean); int burn(int,int); int burnAt(int,int,int); int change(int,int,int,int); "
        + "int count(int); int done(int); int ends(int,int,int,int); int feed(int,int,int,int,int); "
        + "int has(int,int,int); boolean hold(int); int holds(int,int,int,int,int,int); int island(int,int); "
        + "int jars(int,int,int,int); int judge(); int kind(int,int); int lacks(int,int); int lay(int,int,int,int); "
        + "long least(int,int,int,int,int,int); int looked(int,int,int); int months(int,int); "
        + "int order(int,int,int,int,int,int); int pay(int,int,int); int place(); int pool(int,int,int); "
        + "long price(int,int,int,int,int,int); int read(); boolean restore(int); int richest(int); "
        + "int saved(int,int,int); int send(int,int,int,int,boolean); int sort(int,int,int,int,int,int,int); "
        + "long spent(int); int strike(int,int); int trickle(int,int,int,int); int trickled(int,int,int,int); "
        + "int want(int,int,int); int which(int,int); int whichSum(int,int); int whose(int); "
        + "long whoseWays(int,int,boolean); int why();";

    public static void main(String[] args) throws Exception {
        face();
        insides();
        source(Files.readString(Path.of("src/main/java/CoinBoats.java")));
        CHECK.finish();
    }

    private static void face() {
        CHECK.promise("the public face");
        Set<String> face = new TreeSet<>();
        for (String one : FACE.split(";")) {
            face.add(one.trim());
        }
        face.remove("");
        Set<String> found = new TreeSet<>();
        for (Method m : CoinBoats.class.getDeclaredMethods()) {
            if (!Modifier.isPrivate(m.getModifiers())) {
                List<String> types = new ArrayList<>();
                for (Class<?> type : m.getParameterTypes()) {
                    types.add(type.getName());
                }
                found.add(m.getReturnType() + " " + m.getName() + "(" + String.join(",", types) + ")");
                CHECK.due(m + " is public and of objects", m.getModifiers(), Modifier.PUBLIC);
            }
        }
        CHECK.due("the methods are " + found, found.equals(face), true);
        CHECK.due("the class is public and final", CoinBoats.class.getModifiers(), Modifier.PUBLIC | Modifier.FINAL);
        for (Field f : CoinBoats.class.getDeclaredFields()) {
            if (!Modifier.isPrivate(f.getModifiers())) {
                CHECK.due(f + " is NONE", f.getName().equals("NONE"), true);
                CHECK.due("NONE is a constant", f.getModifiers(), Modifier.PUBLIC | Modifier.STATIC | Modifier.FINAL);
            }
        }
        CHECK.due("one constructor", CoinBoats.class.getDeclaredConstructors().length, 1);
        CHECK.due("it is public", CoinBoats.class.getDeclaredConstructors()[0].getModifiers(), Modifier.PUBLIC);
    }

    private static void insides() {
        CHECK.promise("LANGUAGE.md, rules 1, 2, 5, 11");
        List<Class<?>> classes = new ArrayList<>(Arrays.asList(CoinBoats.class.getDeclaredClasses()));
        CHECK.due("twelve classes at most", classes.size() < 12, true);
        for (Class<?> c : classes) {
            int m = c.getModifiers();
            CHECK.due(c + " is static, not public", Modifier.isStatic(m) && !Modifier.isPublic(m) && !Modifier.isProtected(m), true);
            CHECK.due(c + " has no class inside", c.getDeclaredClasses().length, 0);
        }
        classes.add(CoinBoats.class);
        Set<String> names = new TreeSet<>();
        for (Method m : CoinBoats.class.getMethods()) {
            names.add(m.getName());
        }
        for (Class<?> c : classes) {
            int fields = 0;
            for (Field f : c.getDeclaredFields()) {
                boolean isStatic = Modifier.isStatic(f.getModifiers());
                fields += isStatic ? 0 : 1;
                CHECK.due(f + " is final if it is static", isStatic && !Modifier.isFinal(f.getModifiers()), false);
            }
            CHECK.due(c + " has twenty fields at most", fields <= 20, true);
            for (Method m : c.getDeclaredMethods()) {
                CHECK.due(m + " takes seven at most", m.getParameterCount() <= 7, true);
                boolean bears = Modifier.isPrivate(m.getModifiers()) && names.contains(m.getName());
                CHECK.due(m + " bears a public one's name", bears, false);
            }
        }
    }

    private static void source(String source) {
        CHECK.promise("LANGUAGE.md, rules 3 to 6, 10, 13");
        for (int i = 0; i < source.length(); i++) {
            if (source.charAt(i) > 126) {
                CHECK.due("the sign at " + i, source.charAt(i), 0);
            }
        }
        String code = source.replaceAll("(?s)/\\*.*?\\*/", " ").replaceAll("//[^\n]*", " ");
        Matcher joined = Pattern.compile("\\+=?\\s*\"|\"\\s*\\+").matcher(code);
        CHECK.due("texts joined by +", joined.find(), false);
        code = code.replaceAll("\"(\\\\.|[^\"\\\\])*\"", "\"\"").replaceAll("'(\\\\.|[^'\\\\])'", "' '");
        String forbidden = "\\b(throw|throws|try|catch|finally|synchronized|assert|import|package|float|double|NaN|var|"
            + "transient|volatile|native|System|Thread|Random|Object|equals|hashCode|toString|Exact|protected|yield|"
            + "goto|strictfp|null|instanceof|StackOverflowError|Error|Exception)\\b|->|::|@|Exact\\(";
        Matcher m = Pattern.compile(forbidden).matcher(code);
        while (m.find()) {
            CHECK.due("the source says " + m.group(), 1, 0);
        }
        methods(source.split("\n"));
    }

    private static void methods(String[] lines) {
        String indent = null;
        int from = 0;
        for (int i = 0; i < lines.length; i++) {
            Matcher m = Pattern.compile("^( {8}| {4})[\\w\\[\\] ]+\\([^;]*\\{$").matcher(lines[i]);
            if (indent == null && m.find()) {
                indent = m.group(1);
                from = i;
            }
            if (indent != null && lines[i].equals(indent + "}")) {
                CHECK.due("sixty lines at most: " + lines[from], i - from <= 60, true);
                indent = null;
            }
            CHECK.due("the line " + lines[i], lines[i].length() <= 110, true);
        }
    }
}
