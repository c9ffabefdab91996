import java.util.ArrayList;
import java.util.LinkedHashMap;
import java.util.LinkedHashSet;
import java.util.List;
import java.util.Map;
import java.util.Set;

/** Sets answers beside those that are due, each under the sentence of the document that asks for it. */
final class Sentences {
    /** In place of a promise's number: the Terms, and the paragraph on refusals behind them. */
    static final int TERMS = 0;
    /** Likewise: what stands ahead of the Terms. */
    static final int BEFORE = -1;
    static final int NONE = -1, BAD = -2, NOT = -3, FULL = -4;
    static final int NULL = -11, INDEX = -12, CAST = -13, STORE = -14, SIZE = -15;

    private final Map<String, Integer> answers = new LinkedHashMap<>();
    private final Set<String> broken = new LinkedHashSet<>();
    private final List<String> faults = new ArrayList<>();
    private String sentence = "";

    static String name(int promise, String words) { return promise + ": " + words; }

    /** The next answers belong to these words, told at a promise (or in the Terms). */
    void says(int promise, String words) {
        sentence = name(promise, words);
        answers.putIfAbsent(sentence, 0);
    }

    void due(String call, long got, long want) {
        answers.merge(sentence, 1, Integer::sum);
        if (got == want) return;
        broken.add(sentence);
        faults.add("\"" + sentence + "\": " + call + " answered " + got + ", due is " + want);
    }

    /** What the machine threw breaks the sentence that was being asked for. */
    void thrown(Throwable t) {
        broken.add(sentence);
        faults.add("\"" + sentence + "\": thrown was " + t);
    }

    /** The fault of a text, and how many cells, minutes or candidates it then tells. */
    void fault(int text, String bytes, int fault, int tells) {
        ElectingWind x = new ElectingWind();
        Checks.tell(x, text, bytes);
        due("fault(" + text + ") of " + bytes, x.fault(text), fault);
        due("count(" + text + ") of " + bytes, x.count(text), tells);
    }

    Map<String, Integer> answers() { return answers; }
    Set<String> broken() { return broken; }
    List<String> faults() { return faults; }
}
