import java.io.IOException;
import java.nio.file.Files;
import java.nio.file.Path;
import java.util.ArrayList;
import java.util.Arrays;
import java.util.LinkedHashMap;
import java.util.List;
import java.util.Map;
import java.util.Set;

/** The sections of ../shared/DOC.md that promise something, with one blank for all white space. */
final class Document {
    private final Map<String, String> sections = new LinkedHashMap<>();

    Document() throws IOException {
        for (String part : Files.readString(Path.of("../shared/DOC.md")).split("(?m)^## ")) {
            int headEnd = part.indexOf('\n');
            String name = part.substring(0, headEnd).replaceAll(":.*", "").strip();
            if (name.equals("Terms") || name.startsWith("Promise ")) {
                sections.put(name, plain(part.substring(headEnd)));
            }
        }
    }

    Set<String> sections() {
        return sections.keySet();
    }

    boolean says(String section, String words) {
        return sections.getOrDefault(section, "").contains(words);
    }

    /** What is left of a section without these words. */
    List<String> leftOf(String section, List<String> words) {
        String text = sections.get(section);
        boolean[] covered = new boolean[text.length()];
        for (String some : words) {
            for (int at = text.indexOf(some); at >= 0; at = text.indexOf(some, at + 1)) {
                Arrays.fill(covered, at, at + some.length(), true);
            }
        }
        StringBuilder left = new StringBuilder();
        for (int i = 0; i < covered.length; i++) {
            left.append(covered[i] ? '\n' : text.charAt(i));
        }
        List<String> pieces = new ArrayList<>();
        for (String piece : left.toString().split("\n+")) {
            if (piece.matches(".*[A-Za-z0-9].*")) {
                pieces.add(piece.strip());
            }
        }
        return pieces;
    }

    /** A promise begins with the call's own line of the face, which is no sentence. */
    private static String plain(String text) {
        return text.replaceAll("```(text)?", " ").replaceAll("\\s+", " ").strip().replaceAll("^`[^`]*`: ", "");
    }
}
