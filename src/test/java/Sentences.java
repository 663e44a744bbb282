import java.io.IOException;
import java.nio.file.Files;
import java.nio.file.Path;
import java.util.ArrayList;
import java.util.Arrays;
import java.util.BitSet;
import java.util.List;
import java.util.Map;
import java.util.TreeMap;
import java.util.regex.Matcher;
import java.util.regex.Pattern;

/** Tests that name a promise and sentences of the document, which must stand there word by word. */
final class Sentences {

    private static final int PROMISES = 43;
    private static final Pattern REFUSAL = Pattern.compile("-[1-6](?![0-9])");
    /** What is not said of a call: the divisions' numbers, and the marks of a block. */
    private static final Pattern NO_SENTENCE = Pattern.compile("==== [IV]+\\.|```(text)?");

    private final String calls;
    private final String terms;
    private final Map<Integer, String> promises = new TreeMap<>();
    private final Map<Integer, List<String>> quoted = new TreeMap<>();
    private boolean good = true;

    Sentences(Path document) throws IOException {
        String text = Files.readString(document).replaceAll("\\s+", " ");
        calls = between(text, " ==== I. ", " ## The public face");
        terms = between(text, " ## Terms", " ## Promise 1:");
        for (int n = 1; n <= PROMISES; n++) {
            String promise = text.substring(text.indexOf(" ## Promise " + n + ":"));
            promises.put(n, between(promise, "`: ", " ## "));
        }
    }

    private static String between(String text, String beginning, String end) {
        int from = text.indexOf(beginning) + beginning.length();
        return text.substring(from, text.indexOf(end, from));
    }

    void test(int promise, String sentence, String boundary, Due.Test test) {
        quotes(promise, "\"" + sentence + "\": " + boundary, test, sentence);
    }

    /** A test of whole sentences, on what comes ordinarily. */
    void whole(int promise, Due.Test test, String... sentences) {
        quotes(promise, "whole: " + sentences[sentences.length - 1], test, sentences);
    }

    private void quotes(int promise, String name, Due.Test test, String... sentences) {
        quoted.computeIfAbsent(promise, key -> new ArrayList<>()).addAll(Arrays.asList(sentences));
        good &= Due.test("promise " + promise + ", " + name, due -> {
            for (String sentence : sentences) {
                boolean stands = calls.contains(sentence) || terms.contains(sentence) || promises.get(promise).contains(sentence);
                due.holds("the document does not say so: " + sentence, stands);
            }
            test.run(due);
        });
    }

    boolean allHold() {
        good &= Due.test("each promise and each of its refusals is quoted by a test", this::refusalsAreQuoted);
        good &= Due.test("each word of the document's terms and promises is quoted by a test", this::wordsAreQuoted);
        return good;
    }

    private void refusalsAreQuoted(Due due) {
        for (int n = 1; n <= PROMISES; n++) {
            String tests = String.join("\n", quoted.getOrDefault(n, List.of()));
            due.holds("promise " + n + " has no test", !tests.isEmpty());
            Matcher refusal = REFUSAL.matcher(promises.get(n));
            while (refusal.find()) {
                due.holds("promise " + n + " has no test of " + refusal.group(), tests.contains(refusal.group()));
            }
        }
    }

    private void wordsAreQuoted(Due due) {
        List<String> all = new ArrayList<>();
        quoted.values().forEach(all::addAll);
        lacksNothing(due, "how many calls", calls, all);
        lacksNothing(due, "the terms", terms, all);
        promises.forEach((n, text) -> lacksNothing(due, "promise " + n, text, quoted.getOrDefault(n, List.of())));
    }

    private static void lacksNothing(Due due, String name, String text, List<String> quotes) {
        BitSet told = new BitSet();
        for (String quote : quotes) {
            for (int i = text.indexOf(quote); i >= 0; i = text.indexOf(quote, i + 1)) {
                told.set(i, i + quote.length());
            }
        }
        Matcher none = NO_SENTENCE.matcher(text);
        while (none.find()) {
            told.set(none.start(), none.end());
        }
        StringBuilder untold = new StringBuilder();
        for (int i = 0; i < text.length(); i++) {
            untold.append(told.get(i) ? '.' : text.charAt(i));
        }
        due.holds(name + ", not quoted: " + untold.toString().replaceAll("(\\.+ *){2,}", "... "), !untold.toString().matches(".*\\w.*"));
    }
}
