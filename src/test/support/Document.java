import java.io.IOException;
import java.nio.file.Files;
import java.nio.file.Path;
import java.util.LinkedHashMap;
import java.util.Map;

/** The document by its headings: each test names its sentence, and what no test named can be told. */
final class Document {
    private final Map<String, String> texts = new LinkedHashMap<>();
    private final Map<String, boolean[]> named = new LinkedHashMap<>();
    private String heading = "";

    Document(Path file) throws IOException {
        String heading = "";
        StringBuilder text = new StringBuilder();
        for (String line : (Files.readString(file) + "\n## ").split("\n")) {
            if (line.startsWith("## ")) {
                put(heading, text.toString());
                heading = line.substring(3);
                text.setLength(0);
            } else if (!line.startsWith("```")) {
                text.append(line.replace("========", "").replaceAll("^`[^`]*`:", "")).append(' ');
            }
        }
    }

    private static String plain(String text) {
        return text.replaceAll("\\s+", " ").trim();
    }

    private void put(String heading, String text) {
        String plain = plain(text);
        texts.put(heading, plain);
        named.put(heading, new boolean[plain.length()]);
    }

    /** Whether there is this heading: from now on sentences are looked for under it. */
    boolean under(String wanted) {
        heading = wanted;
        return texts.containsKey(wanted);
    }

    /** Marks the sentence as named, at its first place under the heading that was not named yet; false: it does not stand there. */
    boolean says(String sentence) {
        String text = texts.getOrDefault(heading, "");
        boolean[] marks = named.getOrDefault(heading, new boolean[0]);
        String wanted = plain(sentence);
        int at = text.indexOf(wanted);
        while (at >= 0 && marks[at] && text.indexOf(wanted, at + 1) >= 0) {
            at = text.indexOf(wanted, at + 1);
        }
        for (int i = at; at >= 0 && i < at + wanted.length(); i++) {
            marks[i] = true;
        }
        return at >= 0;
    }

    /** What stands under the heading and was not named; blanks and signs alone do not count. */
    String unnamed(String wanted) {
        String text = texts.getOrDefault(wanted, "");
        boolean[] marks = named.getOrDefault(wanted, new boolean[0]);
        StringBuilder rest = new StringBuilder();
        for (int i = 0; i < text.length(); i++) {
            rest.append(marks[i] ? '|' : text.charAt(i));
        }
        String parts = rest.toString().replaceAll("[|\\s]*\\|[|\\s]*", " | ").trim();
        return parts.matches(".*\\w.*") ? parts : "";
    }

    Iterable<String> headings() {
        return texts.keySet();
    }
}
