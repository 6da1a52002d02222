import java.io.IOException;
import java.nio.charset.StandardCharsets;
import java.nio.file.Files;
import java.nio.file.Path;
import java.util.ArrayList;
import java.util.Collection;
import java.util.Comparator;
import java.util.LinkedHashMap;
import java.util.List;
import java.util.Map;
import java.util.regex.Matcher;
import java.util.regex.Pattern;
import java.util.stream.Collectors;
import java.util.stream.Stream;

/**
 * README.md: its example compiles and answers as its remarks say, its table has each call, its exceptions are those of
 * the document for each call, and what it quotes stands in the document.
 */
public final class ReadmeTest {
    private static final String EXAMPLE = "Example.java";
    private static final String OUTPUT = "out";
    private static final String PRINTS = "System.out.println(";
    private static final Pattern NAME = Pattern.compile("`(\\w+)`");
    private static final Pattern CALL = Pattern.compile("`(\\w+\\([^)]*\\))`");

    private final Checks checks = new Checks();
    private final Document document = new Document();
    private final List<String> lines;

    private ReadmeTest() throws IOException {
        lines = Files.readAllLines(Path.of("README.md"), StandardCharsets.UTF_8);
    }

    public static void main(String[] arguments) throws Exception {
        ReadmeTest test = new ReadmeTest();
        test.example();
        test.table();
        test.exceptions();
        test.quotations();
        test.testCommand();
        test.checks.end();
    }

    private void example() throws Exception {
        List<String> source = code("## Example", "java");
        List<String> due = remarks(source);
        checks.due(0, "the example is told", due.isEmpty(), false);
        List<String> commands = commands("## Example");
        checks.due(0, "commands of the example", commands.size(), 2);
        Path directory = Files.createTempDirectory("readme");
        try {
            Files.write(directory.resolve(EXAMPLE), source, StandardCharsets.UTF_8);
            for (String command : commands) {
                List<String> printed = run(command, directory);
                checks.due(0, command, printed, command.startsWith("javac ") ? List.of() : due);
            }
        } finally {
            remove(directory);
        }
    }

    /** What each line of the example that prints says behind it; what stands in brackets there is no part of it. */
    private List<String> remarks(List<String> source) {
        List<String> remarks = new ArrayList<>();
        for (String line : source) {
            int mark = line.indexOf("// ");
            checks.due(0, "has a remark just if it prints: " + line, mark >= 0, line.contains(PRINTS));
            if (mark >= 0) {
                remarks.add(line.substring(mark + "// ".length()).replaceAll(" \\(.*\\)$", ""));
            }
        }
        return remarks;
    }

    /** Runs a command with the example and the compiled classes elsewhere than in the project. */
    private static List<String> run(String command, Path directory) throws Exception {
        List<String> words = new ArrayList<>();
        for (String word : command.split(" ")) {
            boolean isElsewhere = word.equals(EXAMPLE) || word.equals(OUTPUT);
            words.add(isElsewhere ? directory.resolve(word).toString() : word);
        }
        Process process = new ProcessBuilder(words).redirectError(ProcessBuilder.Redirect.INHERIT).start();
        String output = new String(process.getInputStream().readAllBytes(), StandardCharsets.UTF_8);
        List<String> printed = output.lines().collect(Collectors.toCollection(ArrayList::new));
        int exit = process.waitFor();
        if (exit != 0) {
            printed.add("exit code " + exit);
        }
        return printed;
    }

    private static void remove(Path directory) throws IOException {
        try (Stream<Path> found = Files.walk(directory)) {
            for (Path each : found.sorted(Comparator.reverseOrder()).collect(Collectors.toList())) {
                Files.delete(each);
            }
        }
    }

    /** Each call stands once in the table of calls. */
    private void table() {
        List<String> told = new ArrayList<>();
        for (String line : under("## How to make an object and call it")) {
            Matcher name = NAME.matcher(line.startsWith("| ") ? line : "");
            while (name.find()) {
                told.add(name.group(1));
            }
        }
        checks.due(0, "calls in the table", sorted(told), sorted(dueExceptions().keySet().stream()
                .map(call -> call.substring(0, call.indexOf('('))).collect(Collectors.toList())));
    }

    private void exceptions() {
        Map<String, List<String>> told = toldExceptions();
        Map<String, List<String>> due = dueExceptions();
        checks.due(0, "calls in the document", due.size(), 53);
        checks.due(0, "calls", sorted(told.keySet()), sorted(due.keySet()));
        due.forEach((call, rows) -> checks.due(0, "exceptions of " + call, told.get(call), rows));
    }

    private static List<String> sorted(Collection<String> names) {
        return names.stream().sorted().collect(Collectors.toList());
    }

    /** Each call of README.md with its exceptions, which stand indented under it. */
    private Map<String, List<String>> toldExceptions() {
        Map<String, List<String>> told = new LinkedHashMap<>();
        List<String> rows = new ArrayList<>();
        for (String item : items(under("## Exceptions"))) {
            if (item.startsWith("  - ")) {
                rows.add(item.substring("  - ".length()));
            } else {
                rows = new ArrayList<>();
                Matcher call = CALL.matcher(item);
                while (call.find()) {
                    checks.due(0, call.group(1) + " is told before", told.put(call.group(1), rows), null);
                }
            }
        }
        return told;
    }

    /** The items of lists, each in one line. */
    private static List<String> items(List<String> text) {
        List<String> items = new ArrayList<>();
        for (String line : text) {
            if (line.trim().startsWith("- ")) {
                items.add(line);
            } else if (line.startsWith("  ")) {
                int last = items.size() - 1;
                items.set(last, items.get(last) + " " + line.trim());
            }
        }
        return items;
    }

    private Map<String, List<String>> dueExceptions() {
        Map<String, List<String>> due = new LinkedHashMap<>();
        document.calls().forEach((heading, call) -> {
            if (!call.startsWith("TailorWorkshop(")) {
                due.put(call, document.under(heading).stream().filter(sentence -> sentence.startsWith("Throws "))
                        .map(sentence -> sentence.substring("Throws ".length())).collect(Collectors.toList()));
            }
        });
        return due;
    }

    private void quotations() {
        StringBuilder text = new StringBuilder();
        for (String line : lines) {
            text.append(line.startsWith("> ") ? line.substring(2) + " " : "");
        }
        List<String> quoted = new ArrayList<>(code("## Scripts", "text"));
        checks.due(0, "lines of a script's form", quoted.size(), 3);
        quoted.addAll(List.of(Document.sentencesOf(text.toString().trim())));
        for (String sentence : quoted) {
            checks.due(0, "the document says: " + sentence, document.says(sentence), true);
        }
    }

    private void testCommand() {
        checks.due(0, "command of the tests", commands("## Tests"), List.of(".ci/run"));
        checks.due(0, ".ci/run can be run", Files.isExecutable(Path.of(".ci/run")), true);
    }

    /** The lines under a heading that are indented, outside of the example and of lists. */
    private List<String> commands(String heading) {
        List<String> commands = new ArrayList<>();
        boolean isCode = false;
        for (String line : under(heading)) {
            isCode ^= line.startsWith("```");
            if (!isCode && line.startsWith("    ")) {
                commands.add(line.trim());
            }
        }
        return commands;
    }

    private List<String> code(String heading, String language) {
        return under(heading).stream().dropWhile(line -> !line.equals("```" + language)).skip(1)
                .takeWhile(line -> !line.equals("```")).collect(Collectors.toList());
    }

    private List<String> under(String heading) {
        return lines.stream().dropWhile(line -> !line.equals(heading)).skip(1)
                .takeWhile(line -> !line.startsWith("## ")).collect(Collectors.toList());
    }
}
