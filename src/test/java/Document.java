import java.io.IOException;
import java.io.UncheckedIOException;
import java.nio.charset.StandardCharsets;
import java.nio.file.Files;
import java.nio.file.Path;
import java.util.LinkedHashMap;
import java.util.LinkedHashSet;
import java.util.List;
import java.util.Map;
import java.util.Set;
import java.util.regex.Matcher;
import java.util.regex.Pattern;

/** The sentences of ../shared/DOC.md, each under its heading: "Terms", "Promise 1", "Promise 2" and so on. */
final class Document {
    private static final Path FILE = Path.of("../shared/DOC.md");
    // What stands before the first sentence of a promise, such as: `int deliver(int suit) throws X, Y`:
    private static final Pattern SIGNATURE = Pattern.compile("^`(?:\\w+ )?(\\w+)\\(([^)]*)\\)[^`]*`: ");

    private final Map<String, Set<String>> sentences = new LinkedHashMap<>();
    private final Map<String, String> calls = new LinkedHashMap<>();
    private String heading = "";
    private boolean isCode = false;

    Document() {
        StringBuilder paragraph = new StringBuilder();
        for (String line : lines()) {
            if (isProse(line)) {
                paragraph.append(paragraph.length() == 0 ? "" : " ").append(line.trim());
            } else {
                split(paragraph.toString());
                paragraph.setLength(0);
                single(line);
            }
        }
        split(paragraph.toString());
    }

    private static List<String> lines() {
        try {
            return Files.readAllLines(FILE, StandardCharsets.UTF_8);
        } catch (IOException e) {
            throw new UncheckedIOException(e);
        }
    }

    Set<String> under(String wanted) {
        return sentences.getOrDefault(wanted, Set.of());
    }

    /** For each heading that promises a call, the call without its types, such as deliver(suit). */
    Map<String, String> calls() {
        return calls;
    }

    boolean says(String sentence) {
        return sentences.values().stream().anyMatch(under -> under.contains(sentence));
    }

    private boolean isProse(String line) {
        return !isCode && !line.isBlank() && !line.startsWith("#") && !line.startsWith("```") && !line.startsWith("- ");
    }

    private void single(String line) {
        if (line.startsWith("## ")) {
            heading = line.substring("## ".length()).replaceAll("^(Promise \\d+):.*", "$1");
        } else if (line.startsWith("```")) {
            isCode = !isCode;
        } else if (isCode) {
            add(line.trim());
        } else if (line.contains("counted from")) {
            add(line.substring("- ".length()));
        }
    }

    private void split(String paragraph) {
        Matcher signature = SIGNATURE.matcher(paragraph);
        if (signature.find()) {
            String names = signature.group(2).replaceAll("\\w+ (\\w+)", "$1");
            calls.put(heading, signature.group(1) + "(" + names + ")");
        }
        for (String sentence : sentencesOf(signature.replaceFirst(""))) {
            if (sentence.contains(" ")) {
                add(sentence);
            }
        }
    }

    /** A sentence ends with a full stop before a capital letter; one of a single word is a heading. */
    static String[] sentencesOf(String text) {
        return text.split("(?<=\\.) (?=[A-Z])");
    }

    private void add(String sentence) {
        sentences.computeIfAbsent(heading, name -> new LinkedHashSet<>()).add(sentence);
    }
}
