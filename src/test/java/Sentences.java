import java.util.ArrayList;
import java.util.List;

/**
 * Tests each of which holds one sentence (or a part of one) of ../shared/DOC.md that names a boundary case. What it
 * prints of a wrong answer begins with where the sentence stands, and its words.
 */
final class Sentences {
    /** Where it stands ("Promise 2", "Term I"), its words as they stand there, the test. */
    record Sentence(String where, String words, Runnable test) {
        String label() {
            return where + ", \"" + words + "\"";
        }
    }

    private final Check check;
    private final List<Sentence> all = new ArrayList<>();

    Sentences(Check check) {
        this.check = check;
    }

    void hold(String where, String words, Runnable test) {
        all.add(new Sentence(where, words, test));
    }

    List<Sentence> all() {
        return all;
    }

    /** The sentences that do not hold; a test that throws or asks nothing holds none. */
    List<Sentence> broken() {
        List<Sentence> broken = new ArrayList<>();
        for (Sentence one : all) {
            int wrong = check.wrong();
            int asked = check.asked();
            check.promise(one.label());
            try {
                one.test.run();
            } catch (RuntimeException thrown) {
                check.due("the test threw " + thrown, 1, 0);
            }
            if (check.asked() == asked) {
                check.due("answers asked", 0, 1);
            }
            if (check.wrong() > wrong) {
                broken.add(one);
            }
        }
        return broken;
    }

    void run() {
        int broken = broken().size();
        System.out.println(all.size() + " sentences, " + broken + " do not hold");
        check.finish();
    }
}
