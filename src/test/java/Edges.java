import java.io.IOException;
import java.io.UncheckedIOException;
import java.nio.file.Files;
import java.nio.file.Path;
import java.util.LinkedHashMap;
import java.util.LinkedHashSet;
import java.util.Map;
import java.util.Set;

/** Tests of boundary cases, each told by the sentence of the document that it holds. Run in the project's folder. */
abstract class Edges extends Checks {
    private static final Set<String> TERMS = Set.of("What it is", "Cells, passages", "Doors, the way", "How it draws",
        "Building", "Texts", "Changes and errors");

    private static final Map<String, String> SECTIONS = sections();
    private static final Set<String> HELD = new LinkedHashSet<>();

    /** The section "Promise 2" is the one that the document heads so, and so on; the edge says which case is meant. */
    static void edge(String section, String sentence, String edge, Runnable test) {
        run(section + ", \"" + sentence + "\", " + edge, test);
        HELD.add(section + sentence);
        if (!SECTIONS.getOrDefault(section, "").contains(sentence)) {
            complain("the document has no such sentence there");
        }
    }

    /** Of each promise, its ranges and its errors must have been held by a test. */
    static void dueAllPromisesHeld() {
        for (Map.Entry<String, String> section : SECTIONS.entrySet()) {
            if (section.getKey().startsWith("Promise ")) {
                for (String sentence : section.getValue().split("; |\\.?\n")) {
                    dueHeld(section.getKey(), sentence);
                }
            }
        }
    }

    private static void dueHeld(String section, String sentence) {
        boolean isRange = sentence.startsWith("- `");
        boolean isError = sentence.matches("(INVALID_ARGUMENT|NOT_POSSIBLE|LIMIT_REACHED|NOT_FOUND).*");
        if ((isRange || isError) && HELD.stream().noneMatch(held -> isPart(held, section, sentence))) {
            complain("no test holds " + section + ", \"" + sentence + "\"");
        }
    }

    private static boolean isPart(String held, String section, String sentence) {
        return held.startsWith(section) && sentence.contains(held.substring(section.length()));
    }

    private static Map<String, String> sections() {
        Map<String, String> found = new LinkedHashMap<>();
        String section = "";
        for (String line : document().split("\n")) {
            String head = line.replaceFirst("^#+ ", "").replaceFirst("^(Promise \\d+): .*", "$1");
            if (TERMS.contains(head) || line.startsWith("## ")) {
                section = head;
            } else {
                found.merge(section, line + "\n", String::concat);
            }
        }
        return found;
    }

    private static String document() {
        try {
            return Files.readString(Path.of("../shared/DOC.md"));
        } catch (IOException e) {
            throw new UncheckedIOException(e);
        }
    }
}
