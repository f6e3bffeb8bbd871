import java.lang.reflect.Method;
import java.lang.reflect.Modifier;
import java.nio.file.Files;
import java.nio.file.Path;
import java.util.Set;
import java.util.TreeSet;
import java.util.regex.Matcher;
import java.util.regex.Pattern;

/** The calls that README.md shows answer what stands behind them there, and show each method of the face. */
public final class ReadmeTest {
    private static final Check CHECK = new Check();
    private static final Pattern LINE = Pattern.compile("x\\.(\\w+)\\(([^)]*)\\);\\s*// (true|false|-?\\d+).*");
    private static final Pattern TELL = Pattern.compile("tell\\(x, (?:text|\"([^\"]*)\")\\);\\s*// (\\d+).*");
    private final Set<String> called = new TreeSet<>();
    private String text = "";
    private CoinBoats x = new CoinBoats();

    public static void main(String[] args) throws Exception {
        CHECK.promise("README.md");
        ReadmeTest test = new ReadmeTest();
        String readme = Files.readString(Path.of("README.md"));
        CHECK.due("README.md tells a text as this test does", readme.contains(ownTell()), true);
        String block = "";
        for (String line : readme.split("\n")) {
            if (line.startsWith("```")) {
                block = block.isEmpty() ? line.substring(3) : "";
            } else if (block.equals("text")) {
                test.text += line + "\n";
            } else if (block.equals("java")) {
                test.run(line);
            }
        }
        for (Method method : CoinBoats.class.getDeclaredMethods()) {
            if (Modifier.isPublic(method.getModifiers())) {
                CHECK.due("README.md shows " + method.getName(), test.called.contains(method.getName()), true);
            }
        }
        CHECK.finish();
    }

    static int tell(CoinBoats x, String text) {
        for (int at = 0; at < text.length(); at += 20) {
            int[] fours = new int[5];
            for (int i = 0; i < 20; i++) {
                int sign = at + i < text.length() ? text.charAt(at + i) & 255 : ' ';
                fours[i / 4] = fours[i / 4] << 8 | sign;
            }
            x.feed(fours[0], fours[1], fours[2], fours[3], fours[4]);
        }
        x.back((20 - text.length() % 20) % 20);
        return x.read();
    }

    /** The lines of tell above, as they stand at the left edge. */
    private static String ownTell() throws Exception {
        String source = Files.readString(Path.of("src/test/java/ReadmeTest.java"));
        String end = "\n    }\n";
        int from = source.indexOf("    static int tell(");
        int upTo = source.indexOf(end, from) + end.length();
        return source.substring(from, upTo).replaceAll("(?m)^    ", "");
    }

    private void run(String line) throws Exception {
        Matcher call = LINE.matcher(line);
        Matcher tell = TELL.matcher(line);
        if (line.startsWith("CoinBoats x = new")) {
            x = new CoinBoats();
        } else if (call.matches()) {
            CHECK.due(line, answer(call.group(1), call.group(2)), number(call.group(3)));
            called.add(call.group(1));
        } else if (tell.matches()) {
            String told = tell.group(1) == null ? text : tell.group(1);
            CHECK.due(line, tell(x, told), number(tell.group(2)));
        } else {
            CHECK.due("a call without an answer: " + line, line.startsWith("x."), false);
        }
    }

    private long answer(String name, String told) throws Exception {
        for (Method method : CoinBoats.class.getDeclaredMethods()) {
            if (method.getName().equals(name) && Modifier.isPublic(method.getModifiers())) {
                return number(String.valueOf(method.invoke(x, arguments(told))));
            }
        }
        throw new IllegalStateException("README.md shows no method of the face: " + name);
    }

    private static Object[] arguments(String told) {
        String[] parts = told.isEmpty() ? new String[0] : told.split(", ");
        Object[] arguments = new Object[parts.length];
        for (int i = 0; i < parts.length; i++) {
            boolean isBoolean = parts[i].equals("true") || parts[i].equals("false");
            if (isBoolean) {
                arguments[i] = Boolean.valueOf(parts[i]);
            } else {
                arguments[i] = Integer.decode(parts[i]);
            }
        }
        return arguments;
    }

    private static long number(String told) {
        return told.equals("true") ? 1 : told.equals("false") ? 0 : Long.parseLong(told);
    }
}
