import java.io.IOException;
import java.nio.file.Files;
import java.nio.file.Path;
import java.util.ArrayList;
import java.util.LinkedHashMap;
import java.util.List;
import java.util.Map;

/** The sentences of ../shared/DOC.md: each has a test of its own, or is said to name no boundary case. */
final class Document {
    /** A test of a sentence. */
    interface Test {
        void run();
    }

    static final String NO_SLOT = "Throws `IndexOutOfBoundsException` if there is no such slot";
    static final String NO_ITEM = NO_SLOT + ", or its summary does not have such an item";
    static final String NO_WHAT = "Throws `IllegalArgumentException` if what is out of range";
    static final String EMPTY = "Throws `IllegalStateException` if the slot is empty";
    static final String ONE_EMPTY = "Throws `IllegalStateException` if one of the slots is empty";
    static final String NO_SAMPLE = "Throws `NoSuchElementException` if the sample is empty";

    private static final Map<String, List<String>> LEFT = new LinkedHashMap<>();
    private static String section = "";

    private Document() {
    }

    static void open() throws IOException {
        String text = Files.readString(Path.of("../shared/DOC.md"));
        // The face in Java is what RulesTest looks at, and what is not promised wants no test.
        String told = text.replaceAll("(?s)```.*?```", "").replaceAll("(?s)## Not promised.*", "");
        String title = "";
        StringBuilder paragraph = new StringBuilder();
        for (String line : (told + "\n").split("\n", -1)) {
            if (line.isEmpty() || line.startsWith("#") || line.startsWith("- ")) {
                take(title, paragraph.toString());
                paragraph.setLength(0);
            }
            if (line.startsWith("#")) {
                title = line.replaceAll("^#+ ", "");
            } else if (!line.startsWith("----")) {
                paragraph.append(paragraph.length() == 0 ? "" : " ").append(line);
            }
        }
    }

    // A word alone, such as "Items.", is the heading of what follows.
    private static void take(String title, String paragraph) {
        for (String sentence : paragraph.split("(?<=\\.) (?=[A-Z])")) {
            if (!sentence.matches("(\\w+\\.)?")) {
                LEFT.computeIfAbsent(title, t -> new ArrayList<>()).add(sentence);
            }
        }
    }

    static void section(String title) {
        section = title;
        Check.same("the document has the section " + title, LEFT.containsKey(title), true);
    }

    static void says(String sentence, Test test) {
        cross(sentence);
        Check.about(section + ": \"" + sentence + "\"");
        int before = Check.looked();
        test.run();
        Check.same("something was looked at", Check.looked() > before, true);
        Check.about("");
    }

    /** Sentences that name no boundary case. */
    static void isPlain(String... sentences) {
        for (String sentence : sentences) {
            cross(sentence);
        }
    }

    private static void cross(String sentence) {
        boolean found = LEFT.getOrDefault(section, List.of()).remove(sentence);
        Check.same(section + " says for the first time: " + sentence, found, true);
    }

    static void close() {
        LEFT.forEach((title, sentences) -> Check.same("sentences without a test in " + title, sentences, "[]"));
    }
}
