import java.io.IOException;
import java.nio.file.Files;
import java.nio.file.Path;
import java.util.Map;
import java.util.TreeMap;
import java.util.regex.Matcher;
import java.util.regex.Pattern;

/** Tests that name a promise and a sentence of the document, which must stand there word by word. */
final class Sentences {

    private static final int PROMISES = 43;
    private static final Pattern REFUSAL = Pattern.compile("-[1-6](?![0-9])");

    private final String terms;
    private final Map<Integer, String> promises = new TreeMap<>();
    private final Map<Integer, String> quoted = new TreeMap<>();
    private boolean good = true;

    Sentences(Path document) throws IOException {
        String text = Files.readString(document).replaceAll("\\s+", " ");
        terms = text.substring(text.indexOf(" ## Terms"), text.indexOf(" ## Promise 1:"));
        for (int n = 1; n <= PROMISES; n++) {
            int from = text.indexOf(" ## Promise " + n + ":");
            promises.put(n, text.substring(from, text.indexOf(" ## ", from + 1)));
        }
    }

    void test(int promise, String sentence, String boundary, Due.Test test) {
        boolean stands = terms.contains(sentence) || promises.get(promise).contains(sentence);
        quoted.merge(promise, sentence, (one, other) -> one + "\n" + other);
        good &= Due.test("promise " + promise + ", \"" + sentence + "\": " + boundary, due -> {
            due.holds("the document does not say so", stands);
            test.run(due);
        });
    }

    /** So that no promise, and none of its refusals, goes without a test that quotes it. */
    boolean allHold() {
        good &= Due.test("each promise and each of its refusals is quoted by a test", due -> {
            for (int n = 1; n <= PROMISES; n++) {
                String tests = quoted.getOrDefault(n, "");
                due.holds("promise " + n + " has no test", !tests.isEmpty());
                Matcher refusal = REFUSAL.matcher(promises.get(n));
                while (refusal.find()) {
                    due.holds("promise " + n + " has no test of " + refusal.group(), tests.contains(refusal.group()));
                }
            }
        });
        return good;
    }
}
