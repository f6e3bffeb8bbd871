import java.io.ByteArrayOutputStream;
import java.io.IOException;
import java.io.OutputStream;
import java.io.PrintStream;
import java.io.Writer;
import java.net.URI;
import java.nio.file.Files;
import java.nio.file.Path;
import java.util.ArrayList;
import java.util.HashMap;
import java.util.List;
import java.util.Map;
import java.util.TreeMap;
import java.util.concurrent.ExecutorService;
import java.util.concurrent.Executors;
import java.util.concurrent.TimeUnit;
import java.util.regex.Matcher;
import java.util.regex.Pattern;
import javax.tools.FileObject;
import javax.tools.ForwardingJavaFileManager;
import javax.tools.JavaCompiler;
import javax.tools.JavaFileManager;
import javax.tools.JavaFileObject;
import javax.tools.SimpleJavaFileObject;
import javax.tools.ToolProvider;

/**
 * Not run by .ci/run: tries small changes of the class, one at a time, and tells which of them no Boundary test sees, and
 * how many break each sentence. The class path holds the compiled tests; an argument is where to write what is found.
 */
public final class SmallChanges {
    private record Change(int from, int upTo, String put) {
    }

    private static final String[] TESTS = {"Tape", "Faults", "Tells", "Pieces", "Months", "Coins", "Stocks", "Books", "Ends",
        "Last"};
    private static final Map<String, String> SWAPS = new HashMap<>();
    private static final PrintStream OUT = System.out;
    private static final Map<String, byte[]> COMPILED = new HashMap<>();

    private final String source;
    private final List<String> unseen = new ArrayList<>();
    private final Map<String, Integer> broken = new TreeMap<>();
    // Of each sentence, how many a change breaks that breaks it and the fewest others.
    private final Map<String, Integer> fewest = new TreeMap<>();
    private int tried;
    private int notCompiled;

    private SmallChanges(String source) {
        this.source = source;
    }

    public static void main(String[] args) throws Exception {
        swaps("<", "<=", "<=", "<", ">", ">=", ">=", ">", "==", "!=", "!=", "==", "&&", "||", "||", "&&", "+", "-", "-", "+",
            "*", "+", "/", "*", "%", "+", "+=", "-=", "-=", "+=", "<<", ">>", ">>", "<<", ">>>", ">>", "^", "|", "&", "|", "|", "&",
            "true", "false", "false", "true", "max", "min", "min", "max", "NONE", "NO_WAY", "NO_WAY", "NONE", "++", "--", "--", "++",
            "!", "");
        String source = Files.readString(Path.of("src/main/java/CoinBoats.java"));
        SmallChanges changes = new SmallChanges(source);
        System.setOut(new PrintStream(OutputStream.nullOutputStream()));
        List<String> none = changes.brokenBy(source);
        if (none == null || !none.isEmpty()) {
            OUT.println("without a change: " + none);
            return;
        }
        changes.tryAll(Integer.parseInt(args.length > 1 ? args[1] : "1"));
        Files.writeString(Path.of(args[0]), changes.found());
        OUT.println(changes.tried + " changes, " + changes.notCompiled + " that do not compile, " + changes.unseen.size() + " unseen");
        System.exit(0);
    }

    private static void swaps(String... pairs) {
        for (int i = 0; i < pairs.length; i += 2) {
            SWAPS.put(pairs[i], pairs[i + 1]);
        }
    }

    private List<Change> changes() {
        List<Change> changes = new ArrayList<>();
        Pattern token = Pattern.compile("/\\*(?s:.*?)\\*/|//[^\n]*|\"[^\"]*\"|'[^']*'|[A-Za-z_][A-Za-z_0-9]*|\\d+"
            + "|>>>|<<|>>|\\+\\+|--|[-+<>=!]=|&&|\\|\\||[-+*/%<>^&|!]|\\S");
        Matcher m = token.matcher(source);
        while (m.find()) {
            String found = m.group();
            if (found.matches("\\d+")) {
                changes.add(new Change(m.start(), m.end(), String.valueOf(Long.parseLong(found) + 1)));
                changes.add(new Change(m.start(), m.end(), "(" + (Long.parseLong(found) - 1) + ")"));
            } else if (SWAPS.containsKey(found)) {
                changes.add(new Change(m.start(), m.end(), SWAPS.get(found)));
            }
        }
        Matcher line = Pattern.compile("(?m)^ {8,}(?!return|break|continue|int |long |boolean |case )\\w[^\n{}]*;$").matcher(source);
        while (line.find()) {
            changes.add(new Change(line.start(), line.end(), ";"));
        }
        return changes;
    }

    private void tryAll(int step) throws InterruptedException {
        List<Change> changes = changes();
        ExecutorService workers = Executors.newFixedThreadPool(8);
        for (int i = 0; i < changes.size(); i += step) {
            Change change = changes.get(i);
            workers.submit(() -> tryOne(change));
        }
        workers.shutdown();
        workers.awaitTermination(3, TimeUnit.HOURS);
    }

    private void tryOne(Change change) {
        String changed = source.substring(0, change.from) + change.put + source.substring(change.upTo);
        List<String> seen = brokenBy(changed);
        synchronized (this) {
            tried++;
            if (seen == null) {
                notCompiled++;
            } else if (seen.isEmpty()) {
                int line = 1 + (int) source.substring(0, change.from).chars().filter(c -> c == '\n').count();
                String[] lines = source.split("\n");
                unseen.add(String.format("%5d: %s   [%s -> %s]", line, lines[line - 1].trim(),
                    source.substring(change.from, change.upTo).trim(), change.put));
            } else {
                for (String one : seen) {
                    broken.merge(one, 1, Integer::sum);
                    fewest.merge(one, seen.size(), Math::min);
                }
            }
            if (tried % 200 == 0) {
                OUT.println(tried + " tried, " + unseen.size() + " unseen");
            }
        }
    }

    private String found() {
        StringBuilder text = new StringBuilder();
        unseen.sort(null);
        for (String one : unseen) {
            text.append(one).append('\n');
        }
        for (Sentences.Sentence one : SentencesTest.all()) {
            text.append(String.format("%6d break (one of them %d in all) %s%n", broken.getOrDefault(one.label(), 0),
                fewest.getOrDefault(one.label(), 0), one.label()));
        }
        return text.toString();
    }

    /** The sentences that do not hold of a changed class; null if it does not compile. */
    private List<String> brokenBy(String changed) {
        Map<String, ByteArrayOutputStream> classes = compiled(changed);
        if (classes == null) {
            return null;
        }
        List<String> seen = new ArrayList<>();
        Thread run = new Thread(() -> run(new Changed(classes), seen));
        run.setDaemon(true);
        run.start();
        try {
            run.join(20000);
        } catch (InterruptedException e) {
            throw new IllegalStateException(e);
        }
        if (run.isAlive()) {
            run.stop();
            return List.of("it does not end");
        }
        return seen;
    }

    private static void run(Changed loader, List<String> seen) {
        try {
            for (String test : TESTS) {
                Class<?> sentences = loader.loadClass("Sentences");
                Class<?> check = loader.loadClass("Check");
                Class<?> tests = loader.loadClass("Boundary" + test + "Test");
                var field = tests.getDeclaredField("CHECK");
                field.setAccessible(true);
                var maker = sentences.getDeclaredConstructor(check);
                maker.setAccessible(true);
                Object s = maker.newInstance(field.get(null));
                var method = tests.getDeclaredMethod("sentences", sentences);
                method.setAccessible(true);
                method.invoke(null, s);
                var broken = sentences.getDeclaredMethod("broken");
                broken.setAccessible(true);
                for (Object one : (List<?>) broken.invoke(s)) {
                    var label = one.getClass().getDeclaredMethod("label");
                    label.setAccessible(true);
                    seen.add((String) label.invoke(one));
                }
            }
        } catch (ReflectiveOperationException e) {
            seen.add("it throws " + e.getCause());
        }
    }

    private static Map<String, ByteArrayOutputStream> compiled(String changed) {
        JavaCompiler compiler = ToolProvider.getSystemJavaCompiler();
        Map<String, ByteArrayOutputStream> classes = new HashMap<>();
        JavaFileManager files = new ForwardingJavaFileManager<JavaFileManager>(compiler.getStandardFileManager(d -> { }, null, null)) {
            @Override
            public JavaFileObject getJavaFileForOutput(Location where, String name, JavaFileObject.Kind kind, FileObject from) {
                return new SimpleJavaFileObject(URI.create("mem:///" + name + ".class"), kind) {
                    @Override
                    public OutputStream openOutputStream() {
                        ByteArrayOutputStream bytes = new ByteArrayOutputStream();
                        classes.put(name, bytes);
                        return bytes;
                    }
                };
            }
        };
        SimpleJavaFileObject file = new SimpleJavaFileObject(URI.create("mem:///CoinBoats.java"), JavaFileObject.Kind.SOURCE) {
            @Override
            public CharSequence getCharContent(boolean ignore) {
                return changed;
            }
        };
        boolean compiles = compiler.getTask(Writer.nullWriter(), files, d -> { }, List.of("-proc:none"), null, List.of(file)).call();
        return compiles ? classes : null;
    }

    /** Loads the changed class, and the tests anew. */
    private static final class Changed extends ClassLoader {
        private final Map<String, ByteArrayOutputStream> classes;

        Changed(Map<String, ByteArrayOutputStream> classes) {
            super(ClassLoader.getPlatformClassLoader());
            this.classes = classes;
        }

        @Override
        protected Class<?> findClass(String name) throws ClassNotFoundException {
            try {
                byte[] bytes = classes.containsKey(name) ? classes.get(name).toByteArray() : ofTests(name);
                return defineClass(name, bytes, 0, bytes.length);
            } catch (IOException e) {
                throw new ClassNotFoundException(name, e);
            }
        }

        private static byte[] ofTests(String name) throws IOException, ClassNotFoundException {
            synchronized (COMPILED) {
                byte[] bytes = COMPILED.get(name);
                if (bytes == null) {
                    try (var in = SmallChanges.class.getResourceAsStream("/" + name.replace('.', '/') + ".class")) {
                        if (in == null) {
                            throw new ClassNotFoundException(name);
                        }
                        bytes = in.readAllBytes();
                    }
                    COMPILED.put(name, bytes);
                }
                return bytes;
            }
        }
    }
}
