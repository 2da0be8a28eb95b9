import java.io.IOException;
import java.nio.file.Files;
import java.nio.file.Path;
import java.util.ArrayList;
import java.util.Arrays;
import java.util.List;
import java.util.Map;
import java.util.TreeMap;
import java.util.regex.Matcher;
import java.util.regex.Pattern;

/** The document's words, by promise, and which of them a test has been said to stand for. */
final class Doc {
    /** What stands ahead of the promises and holds for all of them. */
    static final int FACE = -1;
    static final int TERMS = 0;
    static final int PROMISES = 49;
    private static final Pattern SECTION = Pattern.compile("(?m)^## (.*)$");
    private static final Pattern PROMISE = Pattern.compile("Promise (\\d+): .*");
    /** The headings of the calls, of which only what stands in brackets says something. */
    private static final Pattern HEADINGS = Pattern.compile("Ahead of the calls [^:]*: ---- [^(.]*");

    private final Map<Integer, String> words = new TreeMap<>();
    private final Map<Integer, boolean[]> said = new TreeMap<>();

    Doc() throws IOException {
        String text = Files.readString(Path.of("../shared/DOC.md"));
        Matcher heads = SECTION.matcher(text);
        boolean more = heads.find();
        while (more) {
            String head = heads.group(1);
            int from = heads.end();
            more = heads.find();
            keep(head, plain(text.substring(from, more ? heads.start() : text.length())));
        }
        words.forEach((promise, section) -> said.put(promise, new boolean[section.length()]));
    }

    private void keep(String head, String section) {
        Matcher promise = PROMISE.matcher(head);
        if (promise.matches()) {
            words.put(Integer.parseInt(promise.group(1)), section.replaceFirst("^`[^`]*`: ", ""));
        } else if (head.equals("Terms")) {
            words.merge(TERMS, HEADINGS.matcher(section).replaceAll(""), (one, other) -> one + " " + other);
        } else if (head.equals("The public face")) {
            words.put(FACE, section);
        } else if (head.equals("What it is")) {
            words.put(TERMS, section.substring(section.indexOf("An object is used")));
        }
    }

    /** Without the marks of paragraphs, and with one blank between words. */
    private static String plain(String section) {
        return section.replaceAll("(?m)^```.*$", " ").replaceAll("(?m)^==== ", "").replaceAll("\\s+", " ").trim();
    }

    static String nameOf(int promise) {
        return promise == FACE ? "the public face" : promise == TERMS ? "terms" : "promise " + promise;
    }

    String wordsOf(int promise) {
        return words.getOrDefault(promise, "");
    }

    boolean hasAll() {
        return words.size() == PROMISES + 2 && words.containsKey(FACE) && words.containsKey(PROMISES);
    }

    /** Whether a promise has these words; they are said then. */
    boolean say(int promise, String sentence) {
        String section = wordsOf(promise);
        int from = section.indexOf(sentence);
        boolean has = from >= 0;
        while (from >= 0) {
            Arrays.fill(said.get(promise), from, from + sentence.length(), true);
            from = section.indexOf(sentence, from + 1);
        }
        return has;
    }

    /** What no test stands for. */
    List<String> unsaid() {
        List<String> left = new ArrayList<>();
        words.forEach((promise, section) -> {
            StringBuilder open = new StringBuilder();
            for (int i = 0; i <= section.length(); i++) {
                if (i < section.length() && !said.get(promise)[i]) {
                    open.append(section.charAt(i));
                } else {
                    if (open.chars().anyMatch(Character::isLetterOrDigit)) {
                        left.add(nameOf(promise) + ": " + open);
                    }
                    open.setLength(0);
                }
            }
        });
        return left;
    }
}
