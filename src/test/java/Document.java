import java.io.IOException;
import java.nio.file.Files;
import java.nio.file.Path;
import java.util.Arrays;
import java.util.List;
import java.util.Map;
import java.util.TreeMap;

/** The document's words: part 0 is what stands before the first promise, the other parts are promises. */
final class Document {
    private static final int TERMS = 0;

    private final Map<Integer, String> parts = new TreeMap<>();
    private final Map<Integer, boolean[]> quoted = new TreeMap<>();

    Document(Path file) throws IOException {
        List<String> lines = Files.readAllLines(file);
        int part = TERMS;
        boolean counts = false;
        for (String line : lines) {
            if (line.startsWith("## ")) {
                counts = !line.startsWith("## The public face") && !line.startsWith("## Not promised");
                part = line.startsWith("## Promise ") ? Integer.parseInt(line.split("[ :]")[2]) : part;
            } else if (counts && !isMarkup(line)) {
                parts.merge(part, plain(line), (all, more) -> plain(all + " " + more));
            }
        }
        parts.forEach((number, text) -> quoted.put(number, new boolean[text.length()]));
        quote(TERMS, aim());
    }

    private static boolean isMarkup(String line) {
        return line.startsWith("========") || line.startsWith("```");
    }

    private static String plain(String words) {
        return words.replaceFirst("^`[^`]*`:", "").replaceAll("\\s+", " ").trim();
    }

    /** The opening words that tell what the program is for, and no single case. */
    private String aim() {
        String text = parts.get(TERMS);
        return text.substring(0, Math.max(0, text.indexOf("CITIES are 0")));
    }

    /** Marks words as tested: false when neither the promise nor the terms have them. */
    boolean says(int promise, String words) {
        return quote(promise, words) || quote(TERMS, words);
    }

    private boolean quote(int part, String words) {
        int at = parts.getOrDefault(part, "").indexOf(words);
        if (at < 0 || words.isBlank()) {
            return false;
        }
        Arrays.fill(quoted.get(part), at, at + words.length(), true);
        return true;
    }

    /** The words that no test stands for, by parts; empty where there are none. */
    Map<Integer, String> untested() {
        Map<Integer, String> left = new TreeMap<>();
        parts.forEach((number, text) -> left.put(number, unquoted(text, quoted.get(number))));
        return left;
    }

    private static String unquoted(String text, boolean[] done) {
        StringBuilder left = new StringBuilder();
        for (int i = 0; i < text.length(); i++) {
            left.append(done[i] ? ' ' : text.charAt(i));
        }
        return left.toString().replaceAll("[^A-Za-z0-9]+", " ").trim();
    }
}
