import java.util.ArrayList;
import java.util.List;

/** Compares answers with those that are due, tells every wrong one, and ends with 1 if there was one. */
final class Check {
    private int asked = 0;
    private int wrong = 0;

    void due(String call, long got, long want) {
        asked++;
        if (got != want) {
            wrong++;
            System.out.println(call + " answered " + got + ", due is " + want);
        }
    }

    void due(String call, String got, String want) {
        asked++;
        if (!got.equals(want)) {
            wrong++;
            System.out.println(call + " answered\n" + got + "\ndue is\n" + want);
        }
    }

    void end() {
        System.out.println(asked + " answers, " + wrong + " wrong");
        if (wrong != 0) {
            System.exit(1);
        }
    }

    static void feed(BackPages x, String text) {
        int at = 0;
        while (at < text.length()) {
            int n = Math.min(8, text.length() - at);
            long bytes = 0;
            for (int i = 0; i < n; i++) {
                bytes = bytes << 8 | text.charAt(at + i) & 255;
            }
            x.feed(n, bytes);
            at += n;
        }
    }

    /** A new object that has read the text. */
    static BackPages of(String text) {
        BackPages x = new BackPages();
        feed(x, text);
        int heads = x.read();
        if (heads < 0) {
            throw new IllegalStateException("fault " + (-10 - heads) + " at " + x.fault() + " of " + text);
        }
        return x;
    }

    static String printed(BackPages x) {
        StringBuilder out = new StringBuilder();
        for (int i = 0; x.print(i) != BackPages.NONE; i++) {
            out.append((char) x.print(i));
        }
        return out.toString();
    }

    static String name(BackPages x, int h, int sub) {
        StringBuilder out = new StringBuilder();
        for (int i = 0; x.name(h, sub, i) != BackPages.NONE; i++) {
            out.append((char) x.name(h, sub, i));
        }
        return out.toString();
    }

    static String runs(BackPages x, int h, int sub) {
        List<String> out = new ArrayList<>();
        for (int i = 0; i < x.run(h, sub, BackPages.NONE, 0); i++) {
            out.add((x.run(h, sub, i, 2) == 1 ? "*" : "") + x.run(h, sub, i, 0) + "-" + x.run(h, sub, i, 1));
        }
        return String.join(" ", out);
    }

    static String marks(BackPages x) {
        List<String> out = new ArrayList<>();
        for (int k = 0; k < x.count(1); k++) {
            String place = x.mark(k, 1) == BackPages.NONE ? "" : "/" + x.mark(k, 1);
            String main = x.mark(k, 4) == 1 ? "*" : "";
            out.add(x.mark(k, 0) + place + ":" + main + x.mark(k, 2) + "-" + x.mark(k, 3));
        }
        return String.join(" ", out);
    }
}
