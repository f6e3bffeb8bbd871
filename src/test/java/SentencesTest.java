import java.nio.file.Files;
import java.nio.file.Path;
import java.util.ArrayList;
import java.util.LinkedHashMap;
import java.util.List;
import java.util.Map;

/** The sentences that the Boundary tests name stand in ../shared/DOC.md, and no word of its terms and promises is left. */
public final class SentencesTest {
    private static final Check CHECK = new Check();
    private final Map<String, String> texts = new LinkedHashMap<>();
    private final Map<String, boolean[]> held = new LinkedHashMap<>();

    public static void main(String[] args) throws Exception {
        Path document = Path.of("../shared/DOC.md");
        if (!Files.exists(document)) {
            System.out.println("the document is not there: nothing is looked at");
            return;
        }
        SentencesTest test = new SentencesTest();
        test.split(Files.readString(document));
        for (Sentences.Sentence one : all()) {
            test.hold(one.where(), one.words());
        }
        test.finish();
    }

    static List<Sentences.Sentence> all() {
        Sentences s = new Sentences(CHECK);
        BoundaryTapeTest.sentences(s);
        BoundaryFaultsTest.sentences(s);
        BoundaryTellsTest.sentences(s);
        BoundaryPiecesTest.sentences(s);
        BoundaryMonthsTest.sentences(s);
        BoundaryCoinsTest.sentences(s);
        BoundaryStocksTest.sentences(s);
        BoundaryBooksTest.sentences(s);
        BoundaryEndsTest.sentences(s);
        BoundaryLastTest.sentences(s);
        return s.all();
    }

    /** The document by terms and promises, each as one line. */
    private void split(String document) {
        String where = "";
        Map<String, StringBuilder> parts = new LinkedHashMap<>();
        for (String line : document.split("\n")) {
            String words = line.trim();
            if (words.startsWith("## Promise ")) {
                where = words.substring(3, words.indexOf(':'));
                words = "";
            } else if (words.startsWith("## ")) {
                where = words.substring(3);
                words = "";
            } else if (words.startsWith("==== ")) {
                where = "Term " + words.substring(5, words.indexOf('.'));
                words = words.substring(words.indexOf('.') + 2);
            } else if (words.startsWith("```")) {
                words = "";
            }
            parts.computeIfAbsent(where, key -> new StringBuilder()).append(' ').append(words);
        }
        for (Map.Entry<String, StringBuilder> part : parts.entrySet()) {
            String text = part.getValue().toString().replaceAll("\\s+", " ").trim();
            texts.put(part.getKey(), text.replaceFirst("^`[^`]*`: ", ""));
            held.put(part.getKey(), new boolean[text.length()]);
        }
    }

    private void hold(String where, String words) {
        int at = texts.getOrDefault(where, "").indexOf(words);
        CHECK.due(where + " says \"" + words + "\"", at >= 0, true);
        for (int i = Math.max(0, at); at >= 0 && i < at + words.length(); i++) {
            held.get(where)[i] = true;
        }
    }

    private void finish() {
        CHECK.due("promises", texts.keySet().stream().filter(where -> where.startsWith("Promise ")).count(), 46);
        for (Map.Entry<String, String> part : texts.entrySet()) {
            if (part.getKey().startsWith("Term ") || part.getKey().startsWith("Promise ")) {
                for (String rest : rests(part.getKey(), part.getValue())) {
                    CHECK.due(part.getKey() + ": no test holds \"" + rest + "\"", 1, 0);
                }
            }
        }
        CHECK.finish();
    }

    /** Stretches with letters or digits that are not held. */
    private List<String> rests(String where, String text) {
        List<String> rests = new ArrayList<>();
        StringBuilder rest = new StringBuilder();
        for (int i = 0; i <= text.length(); i++) {
            if (i < text.length() && !held.get(where)[i]) {
                rest.append(text.charAt(i));
            } else {
                if (rest.toString().matches(".*[A-Za-z0-9].*")) {
                    rests.add(rest.toString().trim());
                }
                rest.setLength(0);
            }
        }
        return rests;
    }
}
