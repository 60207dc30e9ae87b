import java.util.Random;

/** Runs of calls drawn with fixed seeds; every answer is compared with PlainPages. */
public final class RandomRunsTest {
    private static final String[] WORDS = {"a", "b", "ab", "a_b", "abs", "tide", "tides", "tide_mill", "tidemill", "mill",
        "mills", "new", "new_york", "newark", "york", "z", "abcdefghijkl", "a_b_c_d_e_f", "see", "main", "mark", "bcdefghijkla"};
    private static final int NONE = -1;

    private final Random random;
    private final BackPages x = new BackPages();
    private final PlainPages y = new PlainPages();
    private final StringBuilder calls = new StringBuilder();
    private final int words;
    private int wrong = 0;

    private RandomRunsTest(long seed) {
        random = new Random(seed);
        words = 3 + random.nextInt(WORDS.length - 2);
    }

    public static void main(String[] args) {
        int runs = args.length > 0 ? Integer.parseInt(args[0]) : 400;
        int wrong = 0;
        for (int seed = 1; seed <= runs && wrong < 5; seed++) {
            RandomRunsTest run = new RandomRunsTest(seed);
            run.go();
            if (run.wrong > 0) {
                System.out.println("seed " + seed + ", the calls:" + run.calls);
                wrong++;
            }
        }
        System.out.println(runs + " runs, " + wrong + " with a wrong answer");
        if (wrong > 0) {
            System.exit(1);
        }
    }

    private void due(String call, int got, int want) {
        calls.append("\n  ").append(call).append(" -> ").append(got);
        if (got != want) {
            wrong++;
            calls.append(" DUE ").append(want);
        }
    }

    private int up(int bound) {
        return random.nextInt(bound);
    }

    /** Mostly within its bounds, now and then beside them. */
    private int from(int least, int most) {
        if (up(25) == 0) {
            int[] odd = {least - 1, most + 1, least - 2, Integer.MAX_VALUE, Integer.MIN_VALUE};
            return odd[up(odd.length)];
        }
        int room = most - least + 1;
        return least > most || room < 1 ? least : least + up(room);
    }

    private int aHead() {
        return from(0, y.count(0) - 1);
    }

    private int aSub(int h) {
        return up(2) == 0 ? NONE : from(NONE, Math.max(0, y.head(h, 0)) - 1);
    }

    private String word() {
        return WORDS[up(words)];
    }

    private String blank() {
        return up(6) == 0 ? "  " : " ";
    }

    private String clause() {
        int kind = up(14);
        if (kind < 8) {
            int p = 1 + up(up(2) == 0 ? 12 : 99);
            String sub = up(2) == 0 ? "/" + word() : "";
            String to = up(2) == 0 && p < 99 ? "-" + Math.min(99, p + 1 + up(6)) : "";
            return "mark " + word() + sub + blank() + p + to + (up(4) == 0 ? " main" : "") + ";";
        }
        if (kind < 10) {
            return "see " + word() + blank() + word() + ";";
        }
        if (kind < 12) {
            return "also " + word() + blank() + word() + ";";
        }
        return "asked " + word() + blank() + up(100) + ";";
    }

    private String mended(String text) {
        // clauses that would only be told twice are left out, so that most texts are read
        StringBuilder out = new StringBuilder();
        for (String clause : text.split("(?<=;)")) {
            PlainPages probe = new PlainPages();
            feed(null, probe, out + clause);
            if (probe.read() >= 0) {
                out.append(clause);
            }
        }
        return out.toString();
    }

    private String spoiled(String text) {
        StringBuilder out = new StringBuilder(text);
        String bytes = "abz_019 ;;-/-A\n\0~{`.";
        for (int i = 1 + up(2); i > 0; i--) {
            int at = up(out.length() + 1);
            char c = bytes.charAt(up(bytes.length()));
            if (up(2) == 0) {
                out.insert(at, c);
            } else if (at < out.length()) {
                out.deleteCharAt(at);
            }
        }
        return out.toString();
    }

    private void feed(BackPages to, PlainPages plain, String text) {
        for (int at = 0; at < text.length(); at += 8) {
            int n = Math.min(8, text.length() - at);
            long bytes = up(2) == 0 ? -1 : 0;
            for (int i = 0; i < n; i++) {
                bytes = bytes << 8 | text.charAt(at + i) & 255;
            }
            int want = plain.feed(n, bytes);
            if (to != null) {
                due("feed(" + n + ", " + bytes + ")", to.feed(n, bytes), want);
            }
        }
    }

    private void readText() {
        StringBuilder text = new StringBuilder();
        int clauses = 1 + up(up(3) == 0 ? 70 : 25);
        for (int i = 0; i < clauses; i++) {
            text.append(clause());
        }
        String all = up(5) == 0 ? text.toString() : mended(text.toString());
        if (up(3) == 0) {
            all = spoiled(all);
        }
        if (all.length() > 600) {
            all = all.substring(0, 600);
        }
        calls.append("\n  ").append(all);
        feed(x, y, all);
        due("count(2)", x.count(2), y.count(2));
        due("read()", x.read(), y.read());
        due("fault()", x.fault(), y.fault());
        due("count(2)", x.count(2), y.count(2));
    }

    private void go() {
        readText();
        for (int i = 0; i < 150 && wrong == 0; i++) {
            if (up(40) == 0) {
                readText();
            }
            if (up(3) == 0) {
                change();
            } else {
                ask();
            }
            if (up(30) == 0) {
                askAll();
            }
        }
        askAll();
    }

    private void change() {
        int h = aHead();
        int g = aHead();
        int p = from(1, 99);
        int q = from(p, 99);
        int sub = aSub(h);
        boolean main = up(3) == 0;
        switch (up(16)) {
            case 0, 1 -> due("add(" + h + ", " + sub + ", " + p + ", " + q + ", " + main + ")",
                    x.add(h, sub, p, q, main), y.add(h, sub, p, q, main));
            case 2, 3 -> {
                int k = from(0, y.count(1) - 1);
                due("drop(" + k + ")", x.drop(k), y.drop(k));
            }
            case 4, 5 -> {
                int v = from(0, 99);
                due("asked(" + h + ", " + v + ")", x.asked(h, v), y.asked(h, v));
            }
            case 6 -> {
                int how = from(0, 1);
                due("order(" + how + ")", x.order(how), y.order(how));
            }
            case 7 -> {
                int v = from(20, up(2) == 0 ? 25 : 80);
                due("width(" + v + ")", x.width(v), y.width(v));
            }
            case 8 -> {
                int n = from(1, 9);
                due("putIn(" + p + ", " + n + ")", x.putIn(p, n), y.putIn(p, n));
            }
            case 9 -> {
                int to = up(2) == 0 ? p + up(4) : q;
                due("takeOut(" + p + ", " + to + ")", x.takeOut(p, to), y.takeOut(p, to));
            }
            case 10, 11 -> {
                int u = y.count(3) * 3 + from(1, 9);
                int v = u + up(4) + 1;
                due("saw(" + u + ", " + v + ")", x.saw(u, v), y.saw(u, v));
            }
            case 12 -> {
                if (up(6) == 0) {
                    due("forget()", x.forget(), y.forget());
                }
            }
            case 13 -> due("join(" + h + ", " + g + ")", x.join(h, g), y.join(h, g));
            case 14 -> {
                int i = from(0, 1);
                due("keep(" + i + ")", x.keep(i), y.keep(i));
            }
            default -> {
                int i = from(0, 1);
                due("goBack(" + i + ")", x.goBack(i), y.goBack(i));
            }
        }
    }

    private void ask() {
        int h = aHead();
        int g = aHead();
        int sub = aSub(h);
        int i = from(NONE, 6);
        switch (up(18)) {
            case 0 -> due("count(" + i + ")", x.count(i), y.count(i));
            case 1 -> due("head(" + h + ", " + i + ")", x.head(h, i), y.head(h, i));
            case 2 -> due("name(" + h + ", " + sub + ", " + i + ")", x.name(h, sub, i), y.name(h, sub, i));
            case 3 -> {
                int k = from(0, y.count(1) - 1);
                due("mark(" + k + ", " + i + ")", x.mark(k, i), y.mark(k, i));
            }
            case 4 -> {
                int what = from(0, 2);
                due("run(" + h + ", " + sub + ", " + i + ", " + what + ")", x.run(h, sub, i, what), y.run(h, sub, i, what));
            }
            case 5 -> due("at(" + h + ")", x.at(h), y.at(h));
            case 6 -> due("subAt(" + h + ", " + i + ")", x.subAt(h, i), y.subAt(h, i));
            case 7 -> {
                int at = from(0, y.count(5));
                due("print(" + at + ")", x.print(at), y.print(at));
            }
            case 8 -> {
                int what = from(0, 1);
                due("look(" + h + ", " + what + ")", x.look(h, what), y.look(h, what));
            }
            case 9 -> {
                int page = from(1, 99);
                due("steps(" + h + ", " + page + ")", x.steps(h, page), y.steps(h, page));
            }
            case 10 -> due("finds(" + h + ", " + i + ")", x.finds(h, i), y.finds(h, i));
            case 11 -> {
                int m = from(0, up(2) == 0 ? 2 : 20);
                due("trouble(" + i + ", " + m + ")", x.trouble(i, m), y.trouble(i, m));
            }
            case 12 -> {
                int set = up(3) == 0 ? up(1 << 17) : 1 << up(17) | 1 << up(17);
                due("posted(" + set + ")", x.posted(set), y.posted(set));
            }
            case 13 -> {
                int n = up(2) == 0 ? y.count(4) + up(6) - 1 : from(0, 999);
                int what = from(0, 2);
                due("posting(" + n + ", " + what + ")", x.posting(n, what), y.posting(n, what));
            }
            case 14 -> {
                int n = up(3) > 0 ? up(y.count(4) + 2) : from(0, 200);
                int which = up(3) == 0 ? NONE : h;
                due("fit(" + n + ", " + which + ")", x.fit(n, which), y.fit(n, which));
            }
            case 15 -> {
                int which = from(0, 1);
                due("stale(" + which + ")", x.stale(which), y.stale(which));
            }
            case 16 -> tellStory(from(0, up(2) == 0 ? 4 : 20), from(NONE, y.count(3) - 1));
            default -> due("near(" + h + ", " + g + ")", x.near(h, g), y.near(h, g));
        }
    }

    private void tellStory(int c, int i) {
        Integer want = y.story(c, i);
        if (want != null) {
            due("story(" + c + ", " + i + ")", x.story(c, i), want);
        }
    }

    private void askAll() {
        String printed = y.printed();
        for (int i = 0; i <= printed.length(); i++) {
            due("print(" + i + ")", x.print(i), i < printed.length() ? printed.charAt(i) : NONE);
        }
        for (int what = 0; what <= 6; what++) {
            due("count(" + what + ")", x.count(what), y.count(what));
            due("trouble(" + what + ", 1)", x.trouble(what, 1), y.trouble(what, 1));
        }
        for (int h = 0; h < y.count(0); h++) {
            due("at(" + h + ")", x.at(h), y.at(h));
            for (int what = 0; what <= 6; what++) {
                due("head(" + h + ", " + what + ")", x.head(h, what), y.head(h, what));
                due("subAt(" + h + ", " + what + ")", x.subAt(h, what), y.subAt(h, what));
            }
            for (int g = 0; g < y.count(0); g++) {
                due("near(" + h + ", " + g + ")", x.near(h, g), y.near(h, g));
            }
        }
        for (int k = 0; k < y.count(1); k++) {
            for (int what = 0; what <= 4; what++) {
                due("mark(" + k + ", " + what + ")", x.mark(k, what), y.mark(k, what));
            }
        }
        int n = up(y.count(4) + 2);
        for (int h = NONE; h < y.count(0); h++) {
            due("fit(" + n + ", " + h + ")", x.fit(n, h), y.fit(n, h));
        }
        int c = up(5);
        for (int i = NONE; i < y.count(3); i++) {
            tellStory(c, i);
        }
    }
}
