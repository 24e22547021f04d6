import java.io.IOException;
import java.io.UncheckedIOException;
import java.nio.file.Files;
import java.nio.file.Path;
import java.util.Set;
import java.util.TreeSet;

/**
 * What the Edge..Test classes share. Each of their tests is of one sentence of the document that names a boundary case:
 * it says the promise, and quotes the sentence, which must stand there (under the promise, or in the Terms).
 */
final class Edge {
    static final int MIN = Integer.MIN_VALUE;
    static final int MAX = Integer.MAX_VALUE;
    static final int[] NO_SHELVES = {-1, 8, MIN, MAX};
    static final int[] NO_PLACES = {-1, 12, MIN, MAX};
    static final int[] NO_DAYS_ON = {-1, 61, MIN, MAX};

    private static final int LAST_PROMISE = 44;
    private static final String DOCUMENT = "../shared/DOC.md";

    private final Due due = new Due();
    private final String document;
    private final Set<Integer> promises = new TreeSet<>();
    private int promise;
    private String sentence = "";
    private int sentences;
    private int answers;

    Edge() {
        try {
            document = Files.readString(Path.of(DOCUMENT)).replaceAll("\\s+", " ");
        } catch (IOException e) {
            throw new UncheckedIOException(e);
        }
    }

    /** Begins the test of a sentence. */
    void of(int ofPromise, String ofSentence) {
        looked();
        promise = ofPromise;
        sentence = ofSentence;
        sentences++;
        answers = 0;
        promises.add(promise);
        boolean stands = part("## Terms", "## Promise 1:").contains(sentence)
            || part("## Promise " + promise + ":", promise < LAST_PROMISE ? "## Promise " + (promise + 1) + ":" : "## Not")
                .contains(sentence);
        due.is(label("stands in the document"), stands ? 1 : 0, 1);
    }

    void is(String call, long got, long want) {
        answers++;
        due.is(label(call), got, want);
    }

    void isTrue(String what, boolean got) {
        is(what, got ? 1 : 0, 1);
    }

    void end() {
        looked();
        System.out.print(sentences + " sentences, ");
        due.end();
    }

    /** Ends the program; fails if a promise from first to last had no test. */
    void end(int first, int last) {
        for (int p = first; p <= last; p++) {
            due.is("tests of promise " + p, promises.contains(p) ? 1 : 0, 1);
        }
        end();
    }

    private void looked() {
        due.is(label("looked at an answer"), sentences == 0 || answers > 0 ? 1 : 0, 1);
    }

    private String label(String what) {
        return "promise " + promise + ", \"" + sentence + "\": " + what;
    }

    private String part(String from, String to) {
        int start = document.indexOf(from);
        int end = document.indexOf(to, start + 1);
        return start < 0 || end < 0 ? "" : document.substring(start, end);
    }

    /** All that is on the shelves, as one text. */
    static String shelves(ChairOnTheRoad x) {
        StringBuilder all = new StringBuilder();
        for (int d = 0; d < 8; d++) {
            all.append(d).append(": ").append(x.cost(d)).append(' ').append(x.toss(d));
            for (int i = 0; x.copy(d, i, d, i, 1) == 1; i++) {
                all.append(' ').append(x.element(d, i));
            }
            all.append('\n');
        }
        return all.toString();
    }

    /** Asks something that goes far in mind, so that a question asked next must begin from now by itself. */
    static void askOther(ChairOnTheRoad x) {
        x.years(20, 7, 0);
        x.stepBest(60);
        x.move(0, 59);
    }

    /** What element throws: 1 IllegalArgumentException, 2 IllegalStateException, just these; 0 nothing. */
    static int thrown(ChairOnTheRoad x, int d, int i) {
        try {
            x.element(d, i);
            return 0;
        } catch (RuntimeException e) {
            return e.getClass() == IllegalArgumentException.class ? 1 : e.getClass() == IllegalStateException.class ? 2 : 3;
        }
    }
}
