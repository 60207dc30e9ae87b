import java.io.IOException;
import java.nio.file.Files;
import java.nio.file.Path;
import java.util.Map;
import java.util.Random;
import java.util.TreeMap;
import java.util.regex.Matcher;
import java.util.regex.Pattern;

/**
 * Any call with any arguments in any state, far beyond the 512th, too: none throws, all end, and none answers a refusal
 * that its promise does not name.
 */
public final class AnyCallsTest {
    private static final Check check = new Check();
    private static final String[] CALLS = {"feed", "read", "fault", "count", "head", "name", "mark", "add", "drop", "asked", "run", "order",
        "at", "subAt", "width", "print", "look", "steps", "finds", "trouble", "posted", "posting", "fit", "putIn", "takeOut", "stale", "saw",
        "forget", "story", "near", "join", "keep", "goBack"};
    private static final int[] EDGES = {Integer.MIN_VALUE, Integer.MIN_VALUE + 1, -1002, -65536, -100, -3, -2, -1, 16, 17, 31, 32, 59, 60, 61, 64,
        79, 80, 81, 98, 99, 100, 199, 200, 201, 599, 600, 601, 999, 1000, 3072, 65535, 65536, Integer.MAX_VALUE - 1, Integer.MAX_VALUE};
    private static final String[] PARTS = {"mark ", "see ", "also ", "asked ", "mark a", "a", "b", "c_d", "/", "-", ";", ";", ";", " ", "5", "17",
        "99", "main", "mark b/a 7;", "mark a 1-99 main;", "see b a;", "see c b;", "see a c;", "also a b;", "also b c;", "asked c 9;", "_", "\0", "~"};

    private final Random random = new Random(34);
    private final Map<String, String> refusals = new TreeMap<>();
    private final int[] answered = new int[CALLS.length];

    private AnyCallsTest() throws IOException {
        String document = Files.readString(Path.of("../shared/DOC.md"));
        Matcher promise = Pattern.compile("## Promise \\d+: (\\w+)\n\n([^\n]*)\n").matcher(document);
        while (promise.find()) {
            refusals.put(promise.group(1), promise.group(2));
        }
    }

    public static void main(String[] args) throws IOException {
        AnyCallsTest test = new AnyCallsTest();
        for (int run = 0; run < 150; run++) {
            test.go(run);
        }
        for (int i = 0; i < CALLS.length; i++) {
            check.due(CALLS[i] + " was not only refused", test.answered[i] > 0 ? 1 : 0, 1);
        }
        check.end();
    }

    private void go(int run) {
        BackPages x = new BackPages();
        int wild = run % 3;
        for (int i = 0; i < 3000; i++) {
            if (i % 100 == 0) {
                readSome(x);
            }
            one(x, random.nextInt(CALLS.length), wild);
        }
    }

    private void readSome(BackPages x) {
        StringBuilder text = new StringBuilder();
        for (int i = random.nextInt(60); i > 0; i--) {
            text.append(PARTS[random.nextInt(PARTS.length)]);
        }
        boolean whole = random.nextInt(3) > 0;
        Check.feed(x, whole ? "mark a/s 5;mark a/t 7;mark b 9-20;see c a;see d c;also e d;mark s1;mark t1;mark as1;asked c 7;mark a 3;" : text.toString());
        legal("read", x.read());
    }

    /** A number that is often a fit one; wild ones are any. */
    private int any(int wild) {
        int way = random.nextInt(4 + wild);
        if (way < 3) {
            return random.nextInt(way == 0 ? 3 : way == 1 ? 10 : 100);
        }
        return way < 5 ? EDGES[random.nextInt(EDGES.length)] : random.nextInt();
    }

    private void one(BackPages x, int call, int wild) {
        int a = any(wild);
        int b = any(wild);
        int c = any(wild);
        int d = any(wild);
        int answer = call < 17 ? early(x, CALLS[call], a, b, c, d) : late(x, CALLS[call], a, b);
        answered[call] += answer > -1000 ? 1 : 0;
        legal(CALLS[call], answer);
    }

    private int early(BackPages x, String call, int a, int b, int c, int d) {
        return switch (call) {
            case "feed" -> x.feed(a, random.nextLong());
            case "read" -> x.read();
            case "fault" -> x.fault();
            case "count" -> x.count(a);
            case "head" -> x.head(a, b);
            case "name" -> x.name(a, b, c);
            case "mark" -> x.mark(a, b);
            case "add" -> x.add(a, b, c, d, (a & 1) == 0);
            case "drop" -> x.drop(a);
            case "asked" -> x.asked(a, b);
            case "run" -> x.run(a, b, c, d);
            case "order" -> x.order(a);
            case "at" -> x.at(a);
            case "subAt" -> x.subAt(a, b);
            case "width" -> x.width(a);
            case "print" -> x.print(a);
            default -> x.look(a, b);
        };
    }

    private int late(BackPages x, String call, int a, int b) {
        return switch (call) {
            case "steps" -> x.steps(a, b);
            case "finds" -> x.finds(a, b);
            case "trouble" -> x.trouble(a, b);
            case "posted" -> x.posted(a);
            case "posting" -> x.posting(a, b);
            case "fit" -> x.fit(a, b);
            case "putIn" -> x.putIn(a, b);
            case "takeOut" -> x.takeOut(a, b);
            case "stale" -> x.stale(a);
            case "saw" -> x.saw(a, b);
            case "forget" -> x.forget();
            case "story" -> x.story(a, b);
            case "near" -> x.near(a, b);
            case "join" -> x.join(a, b);
            case "keep" -> x.keep(a);
            default -> x.goBack(a);
        };
    }

    private void legal(String call, int answer) {
        boolean fine = switch (answer) {
            case BackPages.UNKNOWN -> refusals.get(call).contains("UNKNOWN");
            case BackPages.OUTSIDE -> refusals.get(call).contains("OUTSIDE");
            case BackPages.NOT -> refusals.get(call).contains("NOT:");
            case BackPages.FULL -> refusals.get(call).contains("FULL");
            default -> call.equals("read") ? answer >= -16 && answer <= 16 && (answer >= 0 || answer <= -11) : answer >= leastOf(call);
        };
        check.due(call + " answered " + answer + ", as its promise has it", fine ? 1 : 0, 1);
    }

    /** Those whose promise has no NONE answer 0 at least. */
    private int leastOf(String call) {
        boolean ofSeeOrSub = call.equals("head") || call.equals("mark");
        boolean asAnswer = refusals.get(call).replace("(NONE", "").replace("= NONE", "").contains("NONE");
        return ofSeeOrSub || asAnswer ? BackPages.NONE : 0;
    }
}
