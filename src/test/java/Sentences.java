import java.io.IOException;
import java.nio.file.Files;
import java.nio.file.Path;
import java.util.ArrayList;
import java.util.List;
import java.util.Map;
import java.util.TreeMap;

/** Which sentences of the document the tests quote: each has to stand there, and none may be left out. */
final class Sentences {
    private static final Path DOCUMENT = Path.of("../shared/DOC.md");
    private static final List<Integer> promises = new ArrayList<>();
    private static final List<String> quotes = new ArrayList<>();
    private static final List<Integer> askedBefore = new ArrayList<>();

    private Sentences() {
    }

    static void add(int promise, String words, int asked) {
        promises.add(promise);
        quotes.add(words);
        askedBefore.add(asked);
    }

    static void check() throws IOException {
        int asked = Due.howManyAsked();
        for (int i = 0; i < quotes.size(); i++) {
            int until = i + 1 < quotes.size() ? askedBefore.get(i + 1) : asked;
            Due.due("something is asked for: " + quotes.get(i), until > askedBefore.get(i));
        }
        Map<Integer, String> sections = sections(Files.readString(DOCUMENT));
        for (int promise = 0; promise <= 36; promise++) {
            Due.due("the document has promise " + promise, sections.containsKey(promise));
            if (sections.containsKey(promise)) checkSection(promise, sections.get(promise));
        }
    }

    private static void checkSection(int promise, String text) {
        StringBuilder rest = new StringBuilder(text);
        for (int i = 0; i < quotes.size(); i++) {
            if (promises.get(i) != promise) continue;
            int at = text.indexOf(quotes.get(i));
            Due.due("promise " + promise + " says: " + quotes.get(i), at >= 0);
            for (; at >= 0; at = text.indexOf(quotes.get(i), at + 1)) {
                for (int k = at; k < at + quotes.get(i).length(); k++) rest.setCharAt(k, ' ');
            }
        }
        String left = rest.toString().trim().replaceAll("\\s{2,}", " .. ");
        Due.due("promise " + promise + " has a sentence without a test: " + left, left.isEmpty());
    }

    /** "Terms" (0) and the promises, without what is no sentence. */
    private static Map<Integer, String> sections(String document) {
        Map<Integer, String> sections = new TreeMap<>();
        for (String section : document.split("(?m)^## ")) {
            String title = section.lines().findFirst().orElse("");
            if (title.equals("Terms")) sections.put(0, plain(section.substring(title.length())));
            if (title.startsWith("Promise ")) {
                int promise = Integer.parseInt(title.substring(8, title.indexOf(':')));
                sections.put(promise, plain(section.substring(title.length())));
            }
        }
        return sections;
    }

    private static String plain(String section) {
        return section.replaceAll("(?m)^Ahead of the calls .*$", "").replaceAll("(?m)^```\\w*$", "")
            .replaceAll("======== \\d", "").replaceAll("`[^`]*`:", "").replaceAll("\\s+", " ").trim();
    }
}
