import java.io.IOException;
import java.nio.file.Files;
import java.nio.file.Path;
import java.util.ArrayList;
import java.util.LinkedHashMap;
import java.util.List;
import java.util.Map;

/**
 * The sections of DOC.md that say what is due, and which of their words a test has quoted.
 * Where the file is not at hand, any quote is taken: the answers are asked for all the same.
 */
final class Document {
    private static final Path FILE = Path.of("../shared/DOC.md");

    private final Map<String, String> texts = new LinkedHashMap<>();
    private final Map<String, boolean[]> quoted = new LinkedHashMap<>();

    Document() throws IOException {
        if (!Files.exists(FILE)) {
            System.out.println("no " + FILE + ": quotes are not looked up");
            return;
        }
        String heading = "";
        StringBuilder text = new StringBuilder();
        for (String row : Files.readAllLines(FILE)) {
            if (row.startsWith("## ")) {
                close(heading, text.toString());
                heading = row.substring(3).replaceFirst(":.*", "");
                text.setLength(0);
            } else if (!row.startsWith("```") && !row.startsWith("Ahead of the calls")) {
                text.append(row.replaceFirst("^\\d\\. ", "").replaceFirst("^`[^`]*`: ", "")).append(' ');
            }
        }
        close(heading, text.toString());
    }

    private void close(String heading, String text) {
        String plain = text.replaceAll("\\s+", " ").trim();
        texts.put(heading, plain);
        quoted.put(heading, new boolean[plain.length()]);
    }

    /** Whether a section has these words; they then count as quoted. */
    boolean quote(String heading, String words) {
        if (texts.isEmpty()) {
            return true;
        }
        int at = texts.getOrDefault(heading, "").indexOf(words);
        for (int i = 0; at >= 0 && i < words.length(); i++) {
            quoted.get(heading)[at + i] = true;
        }
        return at >= 0;
    }

    /** What the terms and the promises say without a test that quotes it. */
    List<String> unquoted() {
        List<String> rest = new ArrayList<>();
        for (Map.Entry<String, String> section : texts.entrySet()) {
            if (section.getKey().equals("Terms") || section.getKey().startsWith("Promise ")) {
                addUnquoted(section.getKey(), section.getValue(), rest);
            }
        }
        return rest;
    }

    private void addUnquoted(String heading, String text, List<String> rest) {
        StringBuilder piece = new StringBuilder();
        for (int i = 0; i <= text.length(); i++) {
            if (i < text.length() && !quoted.get(heading)[i]) {
                piece.append(text.charAt(i));
                continue;
            }
            if (piece.chars().anyMatch(Character::isLetterOrDigit)) {
                rest.add(heading + ": " + piece.toString().trim());
            }
            piece.setLength(0);
        }
    }
}
