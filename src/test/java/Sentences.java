import java.io.IOException;
import java.io.UncheckedIOException;
import java.nio.file.Files;
import java.nio.file.Path;
import java.util.HashMap;
import java.util.HashSet;
import java.util.Map;
import java.util.Set;
import java.util.regex.Matcher;
import java.util.regex.Pattern;

/**
 * The sentences of ../shared/DOC.md under which the tests of the boundaries stand: each has to stand in the
 * document as it is quoted, has to be tested, and no sentence that names an error or a range may be left out.
 */
final class Sentences {
    private static final Path DOCUMENT = Path.of("..", "shared", "DOC.md");
    private static final Pattern ERROR = Pattern.compile("\\b(NO_SUCH|BAD_VALUE|BAD_TEXT|TOO_MANY|NOT_POSSIBLE|NONE) if [^;.]*");
    private static final Pattern RANGE = Pattern.compile("`\\w+`: (\\d+ to \\d+|0 or 1)( characters)?");

    private static final Map<String, String> SECTIONS = new HashMap<>();
    private static final Map<String, Set<String>> QUOTED = new HashMap<>();
    private static int askedBefore = 0;

    private Sentences() {}

    static void open() {
        for (String section : document().split("\n## ")) {
            String[] headAndText = section.split("\n", 2);
            SECTIONS.put(headAndText[0].replaceAll(":.*", ""), headAndText[1].replaceAll("\\s+", " "));
        }
        askedBefore = Due.asked();
    }

    private static String document() {
        try {
            return Files.readString(DOCUMENT);
        } catch (IOException gone) {
            throw new UncheckedIOException(gone);
        }
    }

    /** What is asked from here on belongs to these words of the section. */
    static void says(String section, String words) {
        endSentence();
        String text = SECTIONS.getOrDefault(section, "");
        Due.about("");
        Due.is("the document says in " + section + ": " + words, text.contains(words) ? 1 : 0, 1);
        Due.is(section + " has one test for: " + words, QUOTED.computeIfAbsent(section, key -> new HashSet<>()).add(words) ? 1 : 0, 1);
        askedBefore = Due.asked();
        Due.about(section + ", \"" + words + "\": ");
    }

    static void says(int promise, String words) {
        says("Promise " + promise, words);
    }

    private static void endSentence() {
        Due.is("something is asked", Due.asked() > askedBefore || QUOTED.isEmpty() ? 1 : 0, 1);
    }

    static void close() {
        endSentence();
        Due.about("");
        for (Map.Entry<String, String> section : SECTIONS.entrySet()) {
            if (section.getKey().startsWith("Promise ")) {
                allTested(section.getKey(), ERROR.matcher(section.getValue()));
                allTested(section.getKey(), RANGE.matcher(section.getValue()));
            }
        }
        Due.is("promises in the document", SECTIONS.keySet().stream().filter(head -> head.startsWith("Promise ")).count(), 22);
        Due.is("promises with boundaries that are tested", QUOTED.keySet().stream().filter(head -> head.startsWith("Promise ")).count(), 22);
    }

    private static void allTested(String section, Matcher words) {
        while (words.find()) {
            String sentence = words.group();
            boolean tested = QUOTED.getOrDefault(section, Set.of()).stream().anyMatch(quoted -> quoted.contains(sentence));
            Due.is(section + " has a test for: " + sentence, tested ? 1 : 0, 1);
        }
    }
}
