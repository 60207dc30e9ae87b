import java.io.IOException;
import java.nio.file.Files;
import java.nio.file.Path;
import java.util.ArrayList;
import java.util.Comparator;
import java.util.List;
import java.util.Set;
import java.util.TreeSet;
import java.util.regex.Matcher;
import java.util.regex.Pattern;
import java.util.stream.Stream;

/** What README.md says, tried word for word: its program, its commands, its tables. */
public final class ReadmeTest {
    private static final Check check = new Check();

    private final String readme;
    private final String document;
    private final Path place;

    private ReadmeTest(Path place) throws IOException {
        this.place = place;
        readme = Files.readString(Path.of("README.md"));
        document = Files.readString(Path.of("../shared/DOC.md"));
    }

    public static void main(String[] args) throws IOException, InterruptedException {
        Path place = Files.createTempDirectory("readme");
        try {
            ReadmeTest test = new ReadmeTest(place);
            test.filesNamed();
            test.constants();
            test.calls();
            test.tests();
            test.commands();
        } finally {
            remove(place);
        }
        check.end();
    }

    private static void remove(Path place) throws IOException {
        try (Stream<Path> all = Files.walk(place)) {
            for (Path path : all.sorted(Comparator.reverseOrder()).toList()) {
                Files.delete(path);
            }
        }
    }

    private void filesNamed() {
        for (String name : new String[] {"src/main/java/BackPages.java", "../shared/DOC.md", "../shared/LANGUAGE.md", "../shared/tests", "NOTES.md",
            "src/test/java", ".ci/run"}) {
            check.due("README names " + name, readme.contains(name) ? 1 : 0, 1);
            check.due("there is " + name, Files.exists(Path.of(name)) ? 1 : 0, 1);
        }
        check.due(".ci/run can be run", Files.isExecutable(Path.of(".ci/run")) ? 1 : 0, 1);
    }

    private void constants() {
        Set<String> told = new TreeSet<>();
        Matcher row = Pattern.compile("\n\\| `([A-Z]+)` \\| (-\\d+) \\|").matcher(readme);
        while (row.find()) {
            told.add(row.group(1) + " " + row.group(2));
        }
        check.due("constants", told.toString(), new TreeSet<>(List.of("NONE " + BackPages.NONE, "UNKNOWN " + BackPages.UNKNOWN,
                "OUTSIDE " + BackPages.OUTSIDE, "NOT " + BackPages.NOT, "FULL " + BackPages.FULL)).toString());
    }

    /** Each promise of the document has a row, with its number and the names of its arguments. */
    private void calls() {
        List<String> due = new ArrayList<>();
        Matcher promise = Pattern.compile("## Promise (\\d+): [^\n]*\n\n`(int )?(\\w+)\\(([^)]*)\\)`").matcher(document);
        while (promise.find()) {
            String arguments = promise.group(4).replaceAll("\\w+ (\\w+)", "$1");
            due.add((promise.group(2) == null ? "new " : "") + promise.group(3) + "(" + arguments + ") " + promise.group(1));
        }
        List<String> told = new ArrayList<>();
        Matcher row = Pattern.compile("\n\\| `((?:new )?\\w+\\([^)]*\\))` \\| (\\d+) \\|").matcher(readme);
        while (row.find()) {
            told.add(row.group(1) + " " + row.group(2));
        }
        check.due("promises", due.size(), 34);
        check.due("calls", told.toString(), due.toString());
    }

    private void tests() throws IOException {
        Set<String> told = new TreeSet<>();
        Matcher row = Pattern.compile("\n\\| `(\\w+Test)` \\|").matcher(readme);
        while (row.find()) {
            told.add(row.group(1) + ".java");
        }
        Set<String> there = new TreeSet<>();
        try (Stream<Path> all = Files.list(Path.of("src/test/java"))) {
            all.map(file -> file.getFileName().toString()).filter(name -> name.endsWith("Test.java")).forEach(there::add);
        }
        check.due("tests", told.toString(), there.toString());
    }

    private List<String> blocks(String kind) {
        List<String> found = new ArrayList<>();
        Matcher block = Pattern.compile("\n```" + kind + "\n(.*?)```\n", Pattern.DOTALL).matcher(readme);
        while (block.find()) {
            found.add(block.group(1));
        }
        return found;
    }

    /** The commands, in a copy of src; .ci/run is not run here, since it runs this test. */
    private void commands() throws IOException, InterruptedException {
        copySources();
        check.due("programs", blocks("java").size(), 1);
        check.due("outputs", blocks("text").size(), 1);
        Files.writeString(place.resolve("Show.java"), blocks("java").get(0));
        int tried = 0;
        for (String command : String.join("", blocks("sh")).split("\n")) {
            if (command.equals(".ci/run")) {
                continue;
            }
            tried++;
            String output = outputOf(command);
            if (command.endsWith(" Show")) {
                check.due(command, output, blocks("text").get(0));
            } else if (command.contains("RandomRunsTest")) {
                check.due(command, output, command.replaceAll(".* ", "") + " runs, 0 with a wrong answer\n");
            }
        }
        check.due("commands", tried, 5);
    }

    private void copySources() throws IOException {
        Path from = Path.of("src");
        try (Stream<Path> all = Files.walk(from)) {
            for (Path path : all.toList()) {
                Files.copy(path, place.resolve("src").resolve(from.relativize(path)));
            }
        }
    }

    private String outputOf(String command) throws IOException, InterruptedException {
        Process process = new ProcessBuilder("sh", "-c", command).directory(place.toFile()).redirectErrorStream(true).start();
        String output = new String(process.getInputStream().readAllBytes());
        check.due("exit of " + command + ", that told: " + output, process.waitFor(), 0);
        return output;
    }
}
