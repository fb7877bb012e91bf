import java.io.IOException;
import java.nio.file.Files;
import java.nio.file.Path;
import java.util.LinkedHashMap;
import java.util.Map;

/** The document by its parts: what it is, the terms, ==== 2 to ==== 5, the constants, each promise. */
final class Doc {
    final Map<String, String> parts = new LinkedHashMap<>();
    private final Map<String, boolean[]> told = new LinkedHashMap<>();

    Doc(Path path) throws IOException {
        String text = Files.readString(path).replace("```text", " ").replace("```", " ").replaceAll("\\s+", " ");
        put("What it is", text, "## What it is", "## The public face");
        put("Terms", text, "## Terms", "==== 2.");
        put("==== 2", text, "==== 2.", "==== 3.");
        put("==== 3", text, "==== 3.", "==== 4.");
        put("==== 4", text, "==== 4.", "==== 5.");
        put("==== 5", text, "==== 5.", "The constants:");
        put("The constants", text, "The constants:", "## Promise 1:");
        for (int i = 1; i <= 25; i++) {
            put("Promise " + i, text, "## Promise " + i + ":", i < 25 ? "## Promise " + (i + 1) + ":" : "## Not promised");
        }
    }

    private void put(String name, String text, String from, String to) {
        int start = text.indexOf(from) + from.length();
        String part = text.substring(start, text.indexOf(to, start)).trim();
        int face = part.indexOf("`: ");
        part = name.startsWith("Promise") ? part.substring(face + 3) : part;
        parts.put(name, part);
        told.put(name, new boolean[part.length()]);
    }

    /** Whether the sentence stands in that part; it is told from now on. */
    boolean tell(String where, String sentence) {
        String part = parts.getOrDefault(where, "");
        int at = part.indexOf(sentence);
        for (int i = at; at >= 0 && i < at + sentence.length(); i++) {
            told.get(where)[i] = true;
        }
        return at >= 0;
    }

    /** What of a part no sentence told so far holds, or nothing, if that is signs alone. */
    String untold(String where) {
        StringBuilder rest = new StringBuilder();
        String part = parts.get(where);
        for (int i = 0; i < part.length(); i++) {
            rest.append(told.get(where)[i] ? ' ' : part.charAt(i));
        }
        String left = rest.toString().replaceAll("\\s+", " ").trim();
        return left.matches(".*[A-Za-z0-9].*") ? left : "";
    }
}
