import java.io.IOException;
import java.nio.file.Files;
import java.nio.file.Path;
import java.util.ArrayList;
import java.util.List;
import java.util.TreeSet;

/** The sentences of the document, each in its part: a heading's words, or the number of a promise. */
final class Sentences {
    /** It stands in the document as a line of its own, without the signs of a heading. */
    private static final String HEADING_WITHOUT_SIGNS = "Floats, ships, readings";

    private final List<String> parts = new ArrayList<>();
    private final List<String> texts = new ArrayList<>();
    private final TreeSet<Integer> claimed = new TreeSet<>();

    Sentences(Path document) throws IOException {
        String part = "";
        boolean isCode = false;
        for (String line : Files.readAllLines(document)) {
            if (line.startsWith("```")) {
                isCode = !isCode;
            } else if (line.startsWith("#") || line.equals(HEADING_WITHOUT_SIGNS)) {
                part = partOf(line);
            } else if (!isCode && !line.isBlank()) {
                addSentences(part, line.replaceFirst("^(?:\\d+\\.|-) ", ""));
            }
        }
    }

    private static String partOf(String heading) {
        return heading.replaceFirst("^#+ ", "").replaceFirst("^Promise (\\d+): .*", "$1");
    }

    private void addSentences(String part, String line) {
        for (String sentence : line.split("(?<=\\.) (?=[A-Z`])")) {
            parts.add(part);
            texts.add(sentence);
        }
    }

    /** Marks the sentences of a part that hold these words; how many they are. */
    int claim(String part, String words) {
        int found = 0;
        for (int i = 0; i < texts.size(); i++) {
            if (parts.get(i).equals(part) && texts.get(i).contains(words)) {
                claimed.add(i);
                found++;
            }
        }
        return found;
    }

    String unclaimed() {
        StringBuilder left = new StringBuilder();
        for (int i = 0; i < texts.size(); i++) {
            if (!claimed.contains(i)) {
                left.append("\n  ").append(parts.get(i)).append(": ").append(texts.get(i));
            }
        }
        return left.length() == 0 ? "none" : left.toString();
    }
}
