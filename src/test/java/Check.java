import java.util.ArrayList;
import java.util.List;

/** Compares answers with those that are due, tells every wrong one, and ends with 1 if there was one. */
final class Check {
    private int asked = 0;
    private int wrong = 0;
    private int sentences = 0;
    private String words = "";

    /** The document's words, just as they stand there, that the answers from here on hold. */
    void sentence(String words) {
        this.words = "[" + words + "] ";
        sentences++;
    }

    /** Words that hold more than one thing: which of them. */
    void sentence(String words, String which) {
        sentence(words);
        this.words = "[" + words + ": " + which + "] ";
    }

    void due(String call, long got, long want) {
        asked++;
        if (got != want) {
            wrong++;
            System.out.println(words + call + " answered " + got + ", due is " + want);
        }
    }

    void due(String call, String got, String want) {
        asked++;
        if (!got.equals(want)) {
            wrong++;
            System.out.println(words + call + " answered\n" + got + "\ndue is\n" + want);
        }
    }

    void end() {
        System.out.println((sentences > 0 ? sentences + " sentences, " : "") + asked + " answers, " + wrong + " wrong");
        if (wrong != 0) {
            System.exit(1);
        }
    }

    static void feed(BackPages x, String text) {
        int at = 0;
        while (at < text.length()) {
            int n = Math.min(8, text.length() - at);
            long bytes = 0;
            for (int i = 0; i < n; i++) {
                bytes = bytes << 8 | text.charAt(at + i) & 255;
            }
            x.feed(n, bytes);
            at += n;
        }
    }

    /** A new object that has read the text. */
    static BackPages of(String text) {
        BackPages x = new BackPages();
        feed(x, text);
        int heads = x.read();
        if (heads < 0) {
            throw new IllegalStateException("fault " + (-10 - heads) + " at " + x.fault() + " of " + text);
        }
        return x;
    }

    /** One call a byte: an object is good for 512 of them. */
    static String printed(BackPages x) {
        StringBuilder out = new StringBuilder();
        for (int b = x.print(0); b >= 0; b = x.print(out.length())) {
            out.append((char) b);
        }
        return out.toString();
    }

    static String name(BackPages x, int h, int sub) {
        StringBuilder out = new StringBuilder();
        for (int b = x.name(h, sub, 0); b >= 0; b = x.name(h, sub, out.length())) {
            out.append((char) b);
        }
        return out.toString();
    }

    static String runs(BackPages x, int h, int sub) {
        List<String> out = new ArrayList<>();
        int size = x.run(h, sub, BackPages.NONE, 0);
        for (int i = 0; i < size; i++) {
            out.add((x.run(h, sub, i, 2) == 1 ? "*" : "") + x.run(h, sub, i, 0) + "-" + x.run(h, sub, i, 1));
        }
        return String.join(" ", out);
    }

    static String marks(BackPages x) {
        List<String> out = new ArrayList<>();
        int size = x.count(1);
        for (int k = 0; k < size; k++) {
            int sub = x.mark(k, 1);
            String place = sub == BackPages.NONE ? "" : "/" + sub;
            String main = x.mark(k, 4) == 1 ? "*" : "";
            out.add(x.mark(k, 0) + place + ":" + main + x.mark(k, 2) + "-" + x.mark(k, 3));
        }
        return String.join(" ", out);
    }
}
