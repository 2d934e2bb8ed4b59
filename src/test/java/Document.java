import java.io.IOException;
import java.io.UncheckedIOException;
import java.nio.file.Files;
import java.nio.file.Path;
import java.util.ArrayList;
import java.util.List;
import java.util.Map;
import java.util.TreeMap;
import java.util.regex.Matcher;
import java.util.regex.Pattern;

/** The document's own words, and which of them a test has named. */
final class Document {
    static final String OPENING = "What it is";
    static final String TERMS = "Terms";

    /** Words by which a sentence tells a boundary. */
    private static final Pattern BOUNDARY = Pattern.compile("\\d \\.\\. \\d|\\b1 to \\d|at most|at least|latest|held|"
            + "of several|\\bcuts?\\b|\\bnone\\b|no such|NONE|HIDDEN|False|above|below|more than|without|out of bounds|"
            + "empty|by 0 gives|going round|NoSuchElementException|-2:|too early|at first|\\(0, 1|there are|else as|"
            + "can't be|changes nothing|tenth|seventh|17th|third digit|a second s|fifth|nobody|alike|it is so");

    /** What a call that is refused answers, and why: reasons with commas between. */
    private static final Pattern REFUSAL = Pattern.compile(
            "(NONE|HIDDEN|False|NoSuchElementException|-2): ([^.()]*)\\.");

    private final Map<String, String> sections = new TreeMap<>();
    private final Map<String, boolean[]> named = new TreeMap<>();
    private final List<String> reasonsNamed = new ArrayList<>();

    Document() {
        for (String part : textOf(Path.of("../shared/DOC.md")).split("\n## ")) {
            int title = part.indexOf('\n');
            if (title > 0) {
                String words = part.substring(title).replace("```text", " ").replace("`", "").replaceAll("\\s+", " ");
                keep(part.substring(0, title), words.trim());
            }
        }
    }

    private static String textOf(Path path) {
        try {
            return Files.readString(path);
        } catch (IOException missing) {
            throw new UncheckedIOException(missing);
        }
    }

    /** Of a promise its title is the number, and its face is no sentence. */
    private void keep(String title, String words) {
        String section = title;
        String sentences = words;
        if (title.startsWith("Promise ")) {
            section = titleOf(Integer.parseInt(title.substring(8, title.indexOf(':'))));
            sentences = words.substring(words.indexOf(": ") + 2);
        }
        sections.put(section, sentences);
        named.put(section, new boolean[sentences.length()]);
    }

    static String titleOf(int promise) {
        return "Promise " + promise;
    }

    /** How often the sentence stands in that section; it counts as named from now on. */
    int name(String section, String sentence) {
        String words = sections.getOrDefault(section, "");
        int times = 0;
        for (int at = words.indexOf(sentence); at >= 0; at = words.indexOf(sentence, at + 1)) {
            times++;
            for (int i = at; i < at + sentence.length(); i++) {
                named.get(section)[i] = true;
            }
        }
        return times;
    }

    void nameReason(int promise, String sentence, String reason) {
        reasonsNamed.add(promise + " " + sentence + " " + reason);
    }

    /** Words of a boundary, and reasons to refuse, that no test has named. */
    List<String> leftOut() {
        List<String> left = new ArrayList<>();
        for (Map.Entry<String, String> section : sections.entrySet()) {
            String title = section.getKey();
            if (title.equals(TERMS) || title.startsWith("Promise ")) {
                Matcher m = BOUNDARY.matcher(section.getValue());
                while (m.find()) {
                    if (!named.get(title)[m.start()]) {
                        int to = Math.min(section.getValue().length(), m.end() + 40);
                        left.add(title + ": .." + section.getValue().substring(m.start(), to) + "..");
                    }
                }
            }
        }
        for (int promise = 1; promise <= 46; promise++) {
            addReasonsLeftOut(promise, left);
        }
        return left;
    }

    private void addReasonsLeftOut(int promise, List<String> left) {
        Matcher m = REFUSAL.matcher(sections.getOrDefault(titleOf(promise), ""));
        while (m.find()) {
            for (String reason : m.group(2).split(", ")) {
                if (!reasonsNamed.contains(promise + " " + m.group() + " " + reason)) {
                    left.add("promise " + promise + " is refused: " + reason);
                }
            }
        }
    }
}
