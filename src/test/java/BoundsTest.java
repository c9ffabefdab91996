import java.io.IOException;
import java.nio.charset.StandardCharsets;
import java.nio.file.Files;
import java.nio.file.Path;
import java.nio.file.Paths;
import java.util.Map;
import java.util.TreeMap;
import java.util.regex.Matcher;
import java.util.regex.Pattern;

/**
 * Every sentence of the document's Terms and promises, with answers of its own that would not be as due if it were broken
 * (BreaksTest breaks them one by one). No word of the document is left without such a sentence.
 */
public final class BoundsTest {
    private static final Path DOCUMENT = Paths.get("../shared/DOC.md");

    static Sentences ask() {
        Sentences s = new Sentences();
        askOf(s, () -> manyCalls(s));
        askOf(s, () -> new BoundsOfTexts(s).all());
        askOf(s, () -> new BoundsOfWinds(s).all());
        askOf(s, () -> new BoundsOfPlans(s).all());
        askOf(s, () -> new BoundsOfSeen(s).all());
        askOf(s, () -> new BoundsOfSheets(s).all());
        return s;
    }

    /** What is thrown, by a broken class, ends one part only. */
    private static void askOf(Sentences s, Runnable part) {
        try {
            part.run();
        } catch (RuntimeException | StackOverflowError e) {
            s.thrown(e);
        }
    }

    private static void manyCalls(Sentences s) {
        s.says(Sentences.BEFORE, "An object is used for at most 512 calls after it has been made; what later calls answer is free.");
        ElectingWind x = new ElectingWind();
        for (int call = 1; call <= 512; call++) s.due("lulls(), call " + call, x.lulls(), 0);
        x = new ElectingWind();
        for (int call = 1; call <= 512; call++) s.due("type(0, 46), call " + call, x.type(0, 46), call <= 29 ? call : Sentences.FULL);
        s.says(Sentences.BEFORE, "NONE = -1, BAD = -2, NOT = -3, FULL = -4;");
        x = new ElectingWind();
        s.due("fault(0)", x.fault(0), -1);
        s.due("fault(3)", x.fault(3), -2);
        s.due("undo(0)", x.undo(0), -3);
        for (int k = 0; k < 8; k++) x.seen(0, 0);
        s.due("seen(0, 0)", x.seen(0, 0), -4);
        s.due("all four", ElectingWind.NONE + 10 * ElectingWind.BAD + 100 * ElectingWind.NOT + 1000 * ElectingWind.FULL, -4321);
    }

    /** What the document says at each promise (0: in the Terms; -1: ahead of them), on one line, without signatures and headings. */
    private static Map<Integer, String> saying() throws IOException {
        String all = new String(Files.readAllBytes(DOCUMENT), StandardCharsets.UTF_8);
        Map<Integer, String> saying = new TreeMap<>();
        String face = all.substring(all.indexOf("NONE = -1"), all.indexOf("public ElectingWind()"));
        saying.put(-1, plain(all.substring(all.indexOf("An object is used"), all.indexOf("## The public face")) + face));
        String terms = all.substring(all.indexOf("## Terms") + 8, all.indexOf("Ahead of the calls"));
        saying.put(0, plain(terms.replaceAll("={8} [1-4]", "").replaceAll("```(text)?", "")));
        Matcher m = Pattern.compile("## Promise (\\d+): \\w.*\\R+`[^`]*`: (.*)").matcher(all);
        while (m.find()) saying.put(Integer.parseInt(m.group(1)), plain(m.group(2)));
        return saying;
    }

    private static String plain(String text) { return text.replaceAll("\\s+", " "); }

    /** The words that no sentence takes in; sentences that the document does not have. */
    private static int unsaid(Sentences s, Map<Integer, String> saying) {
        int faults = 0;
        for (String name : s.answers().keySet()) {
            int promise = Integer.parseInt(name.substring(0, name.indexOf(':')));
            String words = name.substring(name.indexOf(':') + 2);
            String text = saying.getOrDefault(promise, "");
            int place = text.indexOf(words);
            if (place < 0) {
                faults++;
                System.out.println("BoundsTest: the document does not say, at " + promise + ": " + words);
            } else {
                saying.put(promise, text.substring(0, place) + words.replaceAll(".", " ") + text.substring(place + words.length()));
            }
        }
        for (Map.Entry<Integer, String> left : saying.entrySet()) {
            if (left.getValue().matches(".*[A-Za-z0-9].*")) {
                faults++;
                System.out.println("BoundsTest: no test, at " + left.getKey() + ": " + left.getValue().replaceAll("[ .;:,]+", " "));
            }
        }
        return faults;
    }

    public static void main(String[] args) throws IOException {
        Sentences s = ask();
        for (String fault : s.faults()) System.out.println("BoundsTest: " + fault);
        int faults = s.faults().size();
        for (Map.Entry<String, Integer> sentence : s.answers().entrySet()) {
            if (sentence.getValue() > 0) continue;
            faults++;
            System.out.println("BoundsTest: nothing is asked for \"" + sentence.getKey() + "\"");
        }
        Map<Integer, String> saying = saying();
        if (saying.size() != 36) System.out.println("BoundsTest: the document tells " + saying.size() + " of 36 parts");
        faults += unsaid(s, saying) + (saying.size() == 36 ? 0 : 1);
        int answers = s.answers().values().stream().mapToInt(Integer::intValue).sum();
        System.out.println("BoundsTest: " + s.answers().size() + " sentences, " + answers + " answers, " + faults + " faults");
        if (faults != 0) System.exit(1);
    }
}
