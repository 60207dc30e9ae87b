import java.io.IOException;
import java.lang.reflect.Method;
import java.lang.reflect.Modifier;
import java.nio.file.Files;
import java.nio.file.Path;
import java.util.ArrayList;
import java.util.Arrays;
import java.util.List;
import java.util.Set;
import java.util.TreeSet;
import java.util.regex.Matcher;
import java.util.regex.Pattern;
import java.util.stream.Stream;

/**
 * The document itself, ../shared/DOC.md: its face is the class's, each quote of the tests stands in it just once, and no
 * words of its terms and promises are without a quote, so that a sentence without a test is told here.
 */
public final class DocumentTest {
    private static final Check check = new Check();
    private static final Path DOCUMENT = Path.of("../shared/DOC.md");
    private static final Path SOURCE = Path.of("src/main/java/BackPages.java");
    private static final Path TESTS = Path.of("src/test/java");
    private static final Pattern QUOTE = Pattern.compile("check\\.sentence\\(((?:\\s*\\+?\\s*\"(?:[^\"\\\\]|\\\\.)*\")+)");
    private static final Pattern LITERAL = Pattern.compile("\"((?:[^\"\\\\]|\\\\.)*)\"");
    private static final Pattern METHOD = Pattern.compile("\n    private static void (\\w+)\\(\\) \\{\n        check\\.sentence");

    /** What stands in the terms and promises, but names nothing that a call could answer otherwise. */
    private static final String[] UNTESTED = {"## Terms", "Words in capitals are told where they come first.",
        "All numbers are whole; / cuts towards 0.", "```text", "======== 1", "======== 2", "======== 3", "======== 4"};

    private final String document;
    private final String source;
    private final List<String> quotes = new ArrayList<>();

    private DocumentTest() throws IOException {
        document = Files.readString(DOCUMENT);
        source = Files.readString(SOURCE);
    }

    public static void main(String[] args) throws IOException {
        DocumentTest test = new DocumentTest();
        test.face();
        test.promises();
        test.partsOfTheFace();
        test.gatherQuotes();
        test.quotesStandOnce();
        test.allIsQuoted();
        check.end();
    }

    private String between(String from, String to) {
        int start = document.indexOf(from);
        int end = document.indexOf(to, start + 1);
        if (start < 0 || end < 0) {
            throw new IllegalStateException("no part from " + from + " to " + to);
        }
        return document.substring(start, end);
    }

    private static String withoutNames(String parameters) {
        return parameters.replaceAll("(\\w+) \\w+", "$1").replace(" ", "");
    }

    private static Set<String> methodsOfTheClass() {
        Set<String> methods = new TreeSet<>();
        for (Method m : BackPages.class.getDeclaredMethods()) {
            if (Modifier.isPublic(m.getModifiers())) {
                String types = Arrays.toString(m.getParameterTypes()).replaceAll("[\\[\\] ]", "");
                methods.add(m.getReturnType() + " " + m.getName() + "(" + types + ")");
            }
        }
        return methods;
    }

    private void face() {
        String face = between("```java", "## Terms");
        Set<String> told = new TreeSet<>();
        Matcher method = Pattern.compile("public (\\w+) (\\w+)\\(([^)]*)\\);").matcher(face);
        while (method.find()) {
            told.add(method.group(1) + " " + method.group(2) + "(" + withoutNames(method.group(3)) + ")");
        }
        check.due("methods told", told.size(), 33);
        check.due("methods of the class", methodsOfTheClass().toString(), told.toString());
        for (String line : new String[] {"public final class BackPages {", "public static final int NONE = ", "public BackPages()"}) {
            check.due("the document's '" + line + "'", face.contains(line) ? 1 : 0, 1);
            check.due("the source's '" + line + "'", source.contains(line) ? 1 : 0, 1);
        }
        Matcher constants = Pattern.compile("public static final int ([^;]*);").matcher(face);
        check.due("constants", constants.find() ? constants.group(1) : "", "NONE = " + BackPages.NONE + ", UNKNOWN = " + BackPages.UNKNOWN
                + ", OUTSIDE = " + BackPages.OUTSIDE + ", NOT = " + BackPages.NOT + ", FULL = " + BackPages.FULL);
    }

    /** Promises 1 to 34, each with the signature of its call. */
    private void promises() {
        Matcher promise = Pattern.compile("## Promise (\\d+): ([^\n]*)\n\n`(?:int )?(\\w+)\\(([^)]*)\\)`: ").matcher(document);
        int number = 0;
        while (promise.find()) {
            number++;
            check.due("promise", Integer.parseInt(promise.group(1)), number);
            String name = promise.group(3);
            check.due("promise " + number, promise.group(2), number == 1 ? "A new object" : name);
            String call = "int " + name + "(" + withoutNames(promise.group(4)) + ")";
            check.due("the class has " + call, number == 1 || methodsOfTheClass().contains(call) ? 1 : 0, 1);
        }
        check.due("promises", number, 34);
    }

    /** "Ahead of the calls .. the interface says: ---- ..": the source says it there, too, the calls in that order. */
    private void partsOfTheFace() {
        Matcher part = Pattern.compile("Ahead of the calls ([^\n]*) the interface says: (---- [^\n]*)\\.\n").matcher(document);
        int parts = 0;
        int at = 0;
        while (part.find()) {
            parts++;
            int title = source.indexOf("// " + part.group(2) + "\n", at);
            check.due("'" + part.group(2) + "' stands behind the part before", title >= at ? 1 : 0, 1);
            at = Math.max(at, title);
            for (String name : part.group(1).replace("`", "").split(", ")) {
                int call = source.indexOf("    public int " + name + "(", at);
                check.due(name + " stands behind the call before", call >= at ? 1 : 0, 1);
                at = Math.max(at, call);
            }
        }
        check.due("parts", parts, 6);
    }

    // ---- quotes

    private void gatherQuotes() throws IOException {
        List<Path> files = new ArrayList<>();
        try (Stream<Path> all = Files.list(TESTS)) {
            all.filter(file -> file.toString().endsWith(".java")).sorted().forEach(files::add);
        }
        for (Path file : files) {
            String text = Files.readString(file);
            Matcher quote = QUOTE.matcher(text);
            while (quote.find()) {
                quotes.add(joined(quote.group(1)));
            }
            Matcher method = METHOD.matcher(text);
            while (method.find()) {
                check.due(file.getFileName() + " runs " + method.group(1), text.contains("        " + method.group(1) + "();\n") ? 1 : 0, 1);
            }
        }
    }

    private static String joined(String literals) {
        StringBuilder out = new StringBuilder();
        Matcher literal = LITERAL.matcher(literals);
        while (literal.find()) {
            out.append(literal.group(1).replace("\\\"", "\"").replace("\\\\", "\\"));
        }
        return out.toString();
    }

    private void quotesStandOnce() {
        check.due("quotes are many", quotes.size() > 150 ? 1 : 0, 1);
        for (String quote : quotes) {
            int first = document.indexOf(quote);
            check.due("'" + quote + "' stands in the document", first >= 0 ? 1 : 0, 1);
            check.due("'" + quote + "' stands there once", document.lastIndexOf(quote), first);
        }
    }

    private void allIsQuoted() {
        boolean[] quoted = new boolean[document.length()];
        for (String quote : quotes) {
            cover(quoted, quote);
        }
        for (String words : UNTESTED) {
            for (int at = document.indexOf(words); at >= 0; at = document.indexOf(words, at + 1)) {
                Arrays.fill(quoted, at, at + words.length(), true);
            }
        }
        // these hold the face: face(), promises(), partsOfTheFace() go through them
        Matcher face = Pattern.compile("Ahead of the calls [^\n]*|## Promise \\d+: [^\n]*\n\n`[^`]*`").matcher(document);
        while (face.find()) {
            Arrays.fill(quoted, face.start(), face.end(), true);
        }
        Matcher word = Pattern.compile("[\\w']+").matcher(document);
        for (int at = document.indexOf("## Terms"); word.find(at) && word.start() < document.indexOf("## Not promised"); at = word.end()) {
            int behind = Math.min(document.length(), word.end() + 30);
            String place = document.substring(Math.max(0, word.start() - 30), behind).replace("\n", " ");
            check.due("'" + word.group() + "' is quoted: .. " + place + " ..", quoted[word.start()] ? 1 : 0, 1);
        }
    }

    private void cover(boolean[] quoted, String words) {
        int at = document.indexOf(words);
        if (at >= 0) {
            Arrays.fill(quoted, at, at + words.length(), true);
        }
    }
}
