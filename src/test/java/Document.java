import java.io.IOException;
import java.io.UncheckedIOException;
import java.nio.charset.StandardCharsets;
import java.nio.file.Files;
import java.nio.file.Path;
import java.util.LinkedHashMap;
import java.util.LinkedHashSet;
import java.util.List;
import java.util.Map;
import java.util.Set;

/** The sentences of ../shared/DOC.md, each under its heading: "Terms", "Promise 1", "Promise 2" and so on. */
final class Document {
    private static final Path FILE = Path.of("../shared/DOC.md");

    private final Map<String, Set<String>> sentences = new LinkedHashMap<>();
    private String heading = "";
    private boolean isCode = false;

    Document() {
        StringBuilder paragraph = new StringBuilder();
        for (String line : lines()) {
            if (isProse(line)) {
                paragraph.append(paragraph.length() == 0 ? "" : " ").append(line.trim());
            } else {
                split(paragraph.toString());
                paragraph.setLength(0);
                single(line);
            }
        }
        split(paragraph.toString());
    }

    private static List<String> lines() {
        try {
            return Files.readAllLines(FILE, StandardCharsets.UTF_8);
        } catch (IOException e) {
            throw new UncheckedIOException(e);
        }
    }

    Set<String> under(String wanted) {
        return sentences.getOrDefault(wanted, Set.of());
    }

    private boolean isProse(String line) {
        return !isCode && !line.isBlank() && !line.startsWith("#") && !line.startsWith("```") && !line.startsWith("- ");
    }

    private void single(String line) {
        if (line.startsWith("## ")) {
            heading = line.substring("## ".length()).replaceAll("^(Promise \\d+):.*", "$1");
        } else if (line.startsWith("```")) {
            isCode = !isCode;
        } else if (isCode) {
            add(line.trim());
        } else if (line.contains("counted from")) {
            add(line.substring("- ".length()));
        }
    }

    /** A sentence ends with a full stop before a capital letter; one of a single word is a heading. */
    private void split(String paragraph) {
        String text = paragraph.replaceAll("^`[^`]*\\)[^`]*`: ", "");
        for (String sentence : text.split("(?<=\\.) (?=[A-Z])")) {
            if (sentence.contains(" ")) {
                add(sentence);
            }
        }
    }

    private void add(String sentence) {
        sentences.computeIfAbsent(heading, name -> new LinkedHashSet<>()).add(sentence);
    }
}
