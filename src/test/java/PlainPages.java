import java.util.ArrayList;
import java.util.Arrays;
import java.util.Comparator;
import java.util.LinkedHashMap;
import java.util.LinkedHashSet;
import java.util.List;
import java.util.Map;
import java.util.Set;
import java.util.TreeMap;
import java.util.TreeSet;

/** The document written a second time, as plainly as can be and without a thought of speed, to compare with. */
final class PlainPages {
    static final int NONE = -1, UNKNOWN = -1001, OUTSIDE = -1002, NOT = -1003, FULL = -1004;

    static final class Head {
        String word;
        List<String> subs = new ArrayList<>();
        String see = null;
        Set<String> also = new LinkedHashSet<>();
        int asked = 0;

        Head copy() {
            Head h = new Head();
            h.word = word;
            h.subs.addAll(subs);
            h.see = see;
            h.also.addAll(also);
            h.asked = asked;
            return h;
        }
    }

    static final class Mark {
        String head;
        String sub;
        int p;
        int q;
        boolean main;

        Mark(String head, String sub, int p, int q, boolean main) {
            this.head = head;
            this.sub = sub;
            this.p = p;
            this.q = q;
            this.main = main;
        }
    }

    static final class State {
        List<Head> heads = new ArrayList<>();
        List<Mark> marks = new ArrayList<>();

        State copy() {
            State s = new State();
            for (Head h : heads) {
                s.heads.add(h.copy());
            }
            for (Mark m : marks) {
                s.marks.add(new Mark(m.head, m.sub, m.p, m.q, m.main));
            }
            return s;
        }

        int number(String word) {
            for (int h = 0; h < heads.size(); h++) {
                if (heads.get(h).word.equals(word)) {
                    return h;
                }
            }
            return NONE;
        }

        List<Mark> marksOf(String head) {
            List<Mark> out = new ArrayList<>();
            for (Mark m : marks) {
                if (m.head.equals(head)) {
                    out.add(m);
                }
            }
            return out;
        }

        List<Mark> marksOf(String head, String sub) {
            List<Mark> out = new ArrayList<>();
            for (Mark m : marksOf(head)) {
                if (sub == null ? m.sub == null : sub.equals(m.sub)) {
                    out.add(m);
                }
            }
            return out;
        }

        boolean filled(String head) {
            return !marksOf(head).isEmpty();
        }
    }

    /** A fault ends the reading. */
    static final class Fault extends Exception {
        private static final long serialVersionUID = 1L;
        final int number;
        final int place;

        Fault(int number, int place) {
            this.number = number;
            this.place = place;
        }
    }

    private StringBuilder text = new StringBuilder();
    private int faultPlace = NONE;
    private State now = new State();
    private final State[] images = new State[2];
    private int ordering = 0;
    private int widest = 30;
    private final List<int[]> pairs = new ArrayList<>();

    // ---- the text

    int feed(int n, long bytes) {
        if (n < 1 || n > 8) {
            return OUTSIDE;
        }
        if (text.length() + n > 600) {
            return FULL;
        }
        StringBuilder back = new StringBuilder();
        for (int i = 0; i < n; i++) {
            back.append((char) (bytes & 255));
            bytes >>= 8;
        }
        text.append(back.reverse());
        return text.length();
    }

    /** A sign, a word or a number, and where it begins; at the end an empty one. */
    static final class Token {
        String text;
        int place;

        boolean isWord() {
            return text.matches("[a-z_]+");
        }

        boolean isNumber() {
            return text.matches("[0-9]+");
        }
    }

    private static List<Token> tokens(String text) {
        List<Token> out = new ArrayList<>();
        int at = 0;
        while (true) {
            while (at < text.length() && text.charAt(at) == ' ') {
                at++;
            }
            Token t = new Token();
            t.place = at;
            if (at == text.length()) {
                t.text = "";
                out.add(t);
                return out;
            }
            int to = at + 1;
            for (String kind : new String[] {"[a-z_]+", "[0-9]+"}) {
                while (to < text.length() && text.substring(at, to + 1).matches(kind)) {
                    to++;
                }
            }
            t.text = text.substring(at, to);
            out.add(t);
            at = to;
        }
    }

    private static final class Parser {
        final List<Token> tokens;
        int at = 0;
        final State state = new State();
        int sees = 0;
        int alsos = 0;
        final Set<String> askedTold = new LinkedHashSet<>();

        Parser(String text) {
            tokens = tokens(text);
        }

        Token next() {
            return tokens.get(at);
        }

        void parse() throws Fault {
            while (!next().text.isEmpty()) {
                Token word = next();
                at++;
                switch (word.text) {
                    case "mark" -> mark(word);
                    case "see" -> see(word);
                    case "also" -> also(word);
                    case "asked" -> asked();
                    default -> throw new Fault(1, word.place);
                }
                sign(";");
            }
        }

        void sign(String sign) throws Fault {
            if (!next().text.equals(sign)) {
                throw new Fault(1, next().place);
            }
            at++;
        }

        Token word() throws Fault {
            Token t = next();
            if (!t.isWord()) {
                throw new Fault(1, t.place);
            }
            if (t.text.length() > 12 || t.text.startsWith("_") || t.text.endsWith("_") || t.text.contains("__")) {
                throw new Fault(3, t.place);
            }
            at++;
            return t;
        }

        Token headWord() throws Fault {
            Token t = word();
            if (state.number(t.text) == NONE) {
                if (state.heads.size() == 16) {
                    throw new Fault(4, t.place);
                }
                Head h = new Head();
                h.word = t.text;
                state.heads.add(h);
            }
            return t;
        }

        int number(int least, int most) throws Fault {
            Token t = next();
            if (!t.isNumber()) {
                throw new Fault(1, t.place);
            }
            if (t.text.length() > 2 || Integer.parseInt(t.text) < least || Integer.parseInt(t.text) > most) {
                throw new Fault(2, t.place);
            }
            at++;
            return Integer.parseInt(t.text);
        }

        Head named(String word) {
            return state.heads.get(state.number(word));
        }

        void mark(Token clause) throws Fault {
            if (state.marks.size() == 60) {
                throw new Fault(5, clause.place);
            }
            Head head = named(headWord().text);
            String sub = null;
            if (next().text.equals("/")) {
                at++;
                Token t = word();
                if (!head.subs.contains(t.text)) {
                    if (head.subs.size() == 6) {
                        throw new Fault(4, t.place);
                    }
                    head.subs.add(t.text);
                }
                sub = t.text;
            }
            int p = number(1, 99);
            int q = p;
            if (next().text.equals("-")) {
                at++;
                q = number(p + 1, 99);
            }
            boolean main = next().text.equals("main");
            if (main) {
                at++;
            }
            state.marks.add(new Mark(head.word, sub, p, q, main));
        }

        void see(Token clause) throws Fault {
            if (sees++ == 8) {
                throw new Fault(5, clause.place);
            }
            Token first = headWord();
            if (named(first.text).see != null) {
                throw new Fault(6, first.place);
            }
            Token second = headWord();
            if (second.text.equals(first.text)) {
                throw new Fault(6, second.place);
            }
            named(first.text).see = second.text;
        }

        void also(Token clause) throws Fault {
            if (alsos++ == 8) {
                throw new Fault(5, clause.place);
            }
            Token first = headWord();
            Token second = headWord();
            if (second.text.equals(first.text) || !named(first.text).also.add(second.text)) {
                throw new Fault(6, second.place);
            }
        }

        void asked() throws Fault {
            Token t = headWord();
            if (!askedTold.add(t.text)) {
                throw new Fault(6, t.place);
            }
            named(t.text).asked = number(0, 99);
        }
    }

    int read() {
        Parser parser = new Parser(text.toString());
        text = new StringBuilder();
        try {
            parser.parse();
        } catch (Fault f) {
            faultPlace = f.place;
            return -10 - f.number;
        }
        faultPlace = NONE;
        now = parser.state;
        return now.heads.size();
    }

    int fault() {
        return faultPlace;
    }

    int count(int what) {
        return switch (what) {
            case 0 -> now.heads.size();
            case 1 -> now.marks.size();
            case 2 -> text.length();
            case 3 -> pairs.size();
            case 4 -> linesIn(printed());
            case 5 -> printed().length();
            case 6 -> (int) now.heads.stream().filter(h -> now.filled(h.word)).count();
            default -> OUTSIDE;
        };
    }

    private boolean known(int h) {
        return h >= 0 && h < now.heads.size();
    }

    private boolean known(int h, int sub) {
        return known(h) && sub >= -1 && sub < now.heads.get(h).subs.size();
    }

    private int setOf(Set<String> words) {
        int set = 0;
        for (String word : words) {
            set |= 1 << now.number(word);
        }
        return set;
    }

    int head(int h, int what) {
        if (!known(h)) {
            return UNKNOWN;
        }
        Head head = now.heads.get(h);
        return switch (what) {
            case 0 -> head.subs.size();
            case 1 -> runs(now.marksOf(head.word, null)).size();
            case 2 -> head.see == null ? NONE : now.number(head.see);
            case 3 -> setOf(head.also);
            case 4 -> head.asked;
            case 5 -> now.filled(head.word) ? 1 : 0;
            case 6 -> linesIn(asItIs(head));
            default -> OUTSIDE;
        };
    }

    int name(int h, int sub, int i) {
        if (!known(h, sub)) {
            return UNKNOWN;
        }
        String word = sub == NONE ? now.heads.get(h).word : now.heads.get(h).subs.get(sub);
        if (i == NONE) {
            return word.length();
        }
        return i < 0 || i >= word.length() ? NONE : word.charAt(i);
    }

    int mark(int k, int what) {
        if (k < 0 || k >= now.marks.size()) {
            return UNKNOWN;
        }
        Mark m = now.marks.get(k);
        return switch (what) {
            case 0 -> now.number(m.head);
            case 1 -> m.sub == null ? NONE : now.heads.get(now.number(m.head)).subs.indexOf(m.sub);
            case 2 -> m.p;
            case 3 -> m.q;
            case 4 -> m.main ? 1 : 0;
            default -> OUTSIDE;
        };
    }

    private static boolean page(int p) {
        return p >= 1 && p <= 99;
    }

    private String subWord(int h, int sub) {
        return sub == NONE ? null : now.heads.get(h).subs.get(sub);
    }

    int add(int h, int sub, int p, int q, boolean main) {
        if (!known(h, sub)) {
            return UNKNOWN;
        }
        if (!page(p) || !page(q) || q < p) {
            return OUTSIDE;
        }
        if (now.marks.size() == 60) {
            return FULL;
        }
        now.marks.add(new Mark(now.heads.get(h).word, subWord(h, sub), p, q, main));
        return now.marks.size() - 1;
    }

    int drop(int k) {
        if (k < 0 || k >= now.marks.size()) {
            return UNKNOWN;
        }
        now.marks.remove(k);
        return now.marks.size();
    }

    int asked(int h, int v) {
        if (!known(h)) {
            return UNKNOWN;
        }
        if (v < 0 || v > 99) {
            return OUTSIDE;
        }
        int was = now.heads.get(h).asked;
        now.heads.get(h).asked = v;
        return was;
    }

    /** Page by page: {first, last, main}. */
    private static List<int[]> runs(List<Mark> marks) {
        boolean[] has = new boolean[102];
        boolean[] main = new boolean[102];
        for (Mark m : marks) {
            for (int p = m.p; p <= m.q; p++) {
                has[p] = true;
                main[p] |= m.main;
            }
        }
        List<int[]> out = new ArrayList<>();
        for (int p = 1; p <= 100; p++) {
            if (has[p] && !has[p - 1]) {
                out.add(new int[] {p, p, 0});
            }
            if (has[p]) {
                int[] run = out.get(out.size() - 1);
                run[1] = p;
                run[2] |= main[p] ? 1 : 0;
            }
        }
        return out;
    }

    int run(int h, int sub, int i, int what) {
        if (!known(h, sub)) {
            return UNKNOWN;
        }
        if (what < 0 || what > 2) {
            return OUTSIDE;
        }
        List<int[]> runs = runs(now.marksOf(now.heads.get(h).word, subWord(h, sub)));
        if (i == NONE) {
            return runs.size();
        }
        return i < 0 || i >= runs.size() ? NONE : runs.get(i)[what];
    }

    // ---- printed

    private String key(String word) {
        return ordering == 0 ? word.replace("_", "") : word;
    }

    private List<String> sorted(List<String> words) {
        List<String> out = new ArrayList<>(words);
        out.sort(Comparator.comparing(this::key));
        return out;
    }

    private List<String> headWords() {
        List<String> out = new ArrayList<>();
        for (Head h : now.heads) {
            out.add(h.word);
        }
        return out;
    }

    int order(int how) {
        if (how < 0 || how > 1) {
            return OUTSIDE;
        }
        int was = ordering;
        ordering = how;
        return was;
    }

    int at(int i) {
        return known(i) ? now.number(sorted(headWords()).get(i)) : NONE;
    }

    int subAt(int h, int i) {
        if (!known(h)) {
            return UNKNOWN;
        }
        List<String> subs = now.heads.get(h).subs;
        return i < 0 || i >= subs.size() ? NONE : subs.indexOf(sorted(subs).get(i));
    }

    int width(int v) {
        if (v < 20 || v > 80) {
            return OUTSIDE;
        }
        int was = widest;
        widest = v;
        return was;
    }

    private String row(List<String> units) {
        StringBuilder out = new StringBuilder();
        String line = units.get(0);
        for (String unit : units.subList(1, units.size())) {
            if ((line + ", " + unit).length() <= widest) {
                line = line + ", " + unit;
            } else {
                out.append(line).append(",\n");
                line = "    " + unit;
            }
        }
        return out.append(line).append("\n").toString();
    }

    private String entryRow(String first, List<Mark> marks) {
        List<String> units = new ArrayList<>();
        units.add(first);
        for (int[] run : runs(marks)) {
            String pages = run[0] == run[1] ? "" + run[0] : run[0] + "-" + run[1];
            units.add((run[2] == 1 ? "*" : "") + pages);
        }
        return row(units);
    }

    private String asItIs(Head h) {
        return shown(h, now.marksOf(h.word), h.subs, h.see);
    }

    /** A head with such marks, subs and see; its also is its own. */
    private String shown(Head h, List<Mark> marks, List<String> subs, String see) {
        if (marks.isEmpty() && see == null && h.also.isEmpty()) {
            return "";
        }
        StringBuilder out = new StringBuilder();
        if (marks.isEmpty() && see != null) {
            out.append(h.word).append(", see ").append(see).append("\n");
        } else {
            out.append(entryRow(h.word, marks.stream().filter(m -> m.sub == null).toList()));
        }
        for (String sub : sorted(subs)) {
            List<Mark> own = marks.stream().filter(m -> sub.equals(m.sub)).toList();
            if (!own.isEmpty()) {
                out.append(entryRow("  " + sub, own));
            }
        }
        if (!marks.isEmpty() && see != null) {
            out.append("  see ").append(see).append("\n");
        }
        List<String> others = new ArrayList<>(sorted(headWords()));
        others.retainAll(h.also);
        if (!others.isEmpty()) {
            others.set(0, "  see also " + others.get(0));
            out.append(row(others));
        }
        return out.toString();
    }

    String printed() {
        StringBuilder out = new StringBuilder();
        for (String word : sorted(headWords())) {
            out.append(asItIs(now.heads.get(now.number(word))));
        }
        return out.toString();
    }

    private static int linesIn(String s) {
        return (int) s.chars().filter(c -> c == '\n').count();
    }

    int print(int i) {
        String all = printed();
        return i < 0 || i >= all.length() ? NONE : all.charAt(i);
    }

    // ---- looking

    /** {head, steps}, or null. */
    private int[] found(int h) {
        Set<Integer> been = new LinkedHashSet<>();
        int x = h;
        while (been.add(x)) {
            if (now.filled(now.heads.get(x).word)) {
                return new int[] {x, been.size() - 1};
            }
            if (now.heads.get(x).see == null) {
                return null;
            }
            x = now.number(now.heads.get(x).see);
        }
        return null;
    }

    int look(int h, int what) {
        if (!known(h)) {
            return UNKNOWN;
        }
        if (what < 0 || what > 1) {
            return OUTSIDE;
        }
        return found(h) == null ? NONE : found(h)[what];
    }

    private static Set<Integer> pagesOf(List<Mark> marks) {
        Set<Integer> out = new TreeSet<>();
        for (Mark m : marks) {
            for (int p = m.p; p <= m.q; p++) {
                out.add(p);
            }
        }
        return out;
    }

    /** Breadth first: head to steps. */
    private Map<String, Integer> reached(int h) {
        Map<String, Integer> out = new LinkedHashMap<>();
        List<String> queue = new ArrayList<>();
        queue.add(now.heads.get(h).word);
        out.put(queue.get(0), 0);
        for (int i = 0; i < queue.size(); i++) {
            Head x = now.heads.get(now.number(queue.get(i)));
            List<String> to = new ArrayList<>(x.also);
            if (x.see != null) {
                to.add(x.see);
            }
            for (String word : to) {
                if (!out.containsKey(word)) {
                    out.put(word, out.get(x.word) + 1);
                    queue.add(word);
                }
            }
        }
        return out;
    }

    int steps(int h, int page) {
        if (!known(h)) {
            return UNKNOWN;
        }
        if (!page(page)) {
            return OUTSIDE;
        }
        int best = NONE;
        for (Map.Entry<String, Integer> e : reached(h).entrySet()) {
            if (pagesOf(now.marksOf(e.getKey())).contains(page) && (best == NONE || e.getValue() < best)) {
                best = e.getValue();
            }
        }
        return best;
    }

    int finds(int h, int k) {
        if (!known(h)) {
            return UNKNOWN;
        }
        if (k < 0 || k > 9) {
            return OUTSIDE;
        }
        Set<Integer> pages = new TreeSet<>();
        for (Map.Entry<String, Integer> e : reached(h).entrySet()) {
            if (e.getValue() <= k) {
                pages.addAll(pagesOf(now.marksOf(e.getKey())));
            }
        }
        return pages.size();
    }

    private int markedSubs(Head h) {
        return (int) h.subs.stream().filter(s -> !now.marksOf(h.word, s).isEmpty()).count();
    }

    private boolean round(Head h) {
        Head x = h;
        for (int i = 0; i < 20 && x.see != null; i++) {
            x = now.heads.get(now.number(x.see));
            if (x == h) {
                return true;
            }
        }
        return false;
    }

    int trouble(int what, int m) {
        if (what < 0 || what > 6 || m < 0 || m > 20) {
            return OUTSIDE;
        }
        int set = 0;
        for (int i = 0; i < now.heads.size(); i++) {
            Head h = now.heads.get(i);
            boolean filled = now.filled(h.word);
            boolean has = switch (what) {
                case 0 -> found(i) == null;
                case 1 -> round(h);
                case 2 -> filled && h.see != null;
                case 3 -> runs(now.marksOf(h.word, null)).size() > m && markedSubs(h) == 0;
                case 4 -> markedSubs(h) == 1;
                case 5 -> h.also.stream().anyMatch(w -> !now.filled(w));
                default -> filled && now.heads.stream().anyMatch(o -> o != h
                        && pagesOf(now.marksOf(o.word)).equals(pagesOf(now.marksOf(h.word))));
            };
            set |= has ? 1 << i : 0;
        }
        return set;
    }

    // ---- posted, folded, left out

    private boolean postable(int h) {
        return found(h) != null && found(h)[1] > 0;
    }

    private int postedLines(int set) {
        int lines = 0;
        for (int h = 0; h < now.heads.size(); h++) {
            Head head = now.heads.get(h);
            if ((set >> h & 1) == 1) {
                Head from = now.heads.get(found(h)[0]);
                lines += linesIn(shown(head, now.marksOf(from.word), from.subs, null));
            } else {
                lines += linesIn(asItIs(head));
            }
        }
        return lines;
    }

    int posted(int set) {
        for (int h = 0; h < 32; h++) {
            if ((set >>> h & 1) == 1 && !known(h)) {
                return UNKNOWN;
            }
        }
        for (int h = 0; h < 16; h++) {
            if ((set >> h & 1) == 1 && !postable(h)) {
                return NOT;
            }
        }
        return postedLines(set);
    }

    int posting(int n, int what) {
        if (n < 0 || n > 999 || what < 0 || what > 2) {
            return OUTSIDE;
        }
        int able = 0;
        for (int h = 0; h < now.heads.size() && Integer.bitCount(able) < 10; h++) {
            able |= postable(h) ? 1 << h : 0;
        }
        int[] best = null;
        for (int set = 0; set < 1 << 16; set++) {
            if ((set & ~able) != 0) {
                continue;
            }
            int lines = postedLines(set);
            int saves = 0;
            for (int h = 0; h < now.heads.size(); h++) {
                saves += (set >> h & 1) == 1 ? now.heads.get(h).asked * found(h)[1] : 0;
            }
            if (lines <= n && (best == null || saves > best[1] || saves == best[1] && lines < best[2])) {
                best = new int[] {set, saves, lines};
            }
        }
        return best == null ? NONE : best[what];
    }

    /** From the first head on: for each number of lines the least loss and the first row that has it. */
    int fit(int n, int h) {
        if (h != NONE && !known(h)) {
            return UNKNOWN;
        }
        if (n < 0 || n > 200) {
            return OUTSIDE;
        }
        TreeMap<Integer, String> best = new TreeMap<>();
        best.put(0, "000000:");
        for (Head x : now.heads) {
            TreeMap<Integer, String> more = new TreeMap<>();
            for (Map.Entry<Integer, String> e : best.entrySet()) {
                int loss = Integer.parseInt(e.getValue().substring(0, 6));
                String row = e.getValue().substring(7);
                int plain = linesIn(asItIs(x));
                put(more, e.getKey() + plain, loss, row + "0");
                if (plain > 0 && markedSubs(x) > 0) {
                    List<Mark> all = new ArrayList<>();
                    for (Mark m : now.marksOf(x.word)) {
                        all.add(new Mark(m.head, null, m.p, m.q, m.main));
                    }
                    int folded = linesIn(shown(x, all, new ArrayList<>(), x.see));
                    put(more, e.getKey() + folded, loss + (x.asked + 1) * markedSubs(x), row + "1");
                }
                if (plain > 0) {
                    put(more, e.getKey(), loss + (x.asked + 1) * 20, row + "2");
                }
            }
            best = more;
        }
        int lines = NONE;
        for (int l : best.keySet()) {
            if (l <= n && (lines == NONE || best.get(l).substring(0, 6).compareTo(best.get(lines).substring(0, 6)) < 0)) {
                lines = l;
            }
        }
        String it = best.get(lines);
        return h == NONE ? Integer.parseInt(it.substring(0, 6)) : it.charAt(7 + h) - '0';
    }

    private static void put(TreeMap<Integer, String> into, int lines, int loss, String row) {
        String it = String.format("%06d:%s", loss, row);
        if (!into.containsKey(lines) || it.compareTo(into.get(lines)) < 0) {
            into.put(lines, it);
        }
    }

    // ---- pages

    int putIn(int p, int n) {
        if (p < 0 || p > 99 || n < 1 || n > 9) {
            return OUTSIDE;
        }
        int changed = 0;
        for (Mark m : now.marks) {
            if (m.q > p && m.q + n > 99) {
                return NOT;
            }
        }
        for (Mark m : now.marks) {
            changed += m.q > p ? 1 : 0;
            m.p += m.p > p ? n : 0;
            m.q += m.q > p ? n : 0;
        }
        return changed;
    }

    /** Page by page. */
    int takeOut(int p, int q) {
        if (!page(p) || !page(q) || q < p) {
            return OUTSIDE;
        }
        List<Mark> left = new ArrayList<>();
        for (Mark m : now.marks) {
            TreeSet<Integer> pages = new TreeSet<>();
            for (int x = m.p; x <= m.q; x++) {
                if (x < p) {
                    pages.add(x);
                } else if (x > q) {
                    pages.add(x - (q - p + 1));
                }
            }
            if (!pages.isEmpty()) {
                m.p = pages.first();
                m.q = pages.last();
                left.add(m);
            }
        }
        int gone = now.marks.size() - left.size();
        now.marks = left;
        return gone;
    }

    private static Set<String> runSet(State s) {
        Set<String> out = new LinkedHashSet<>();
        for (Head h : s.heads) {
            List<String> subs = new ArrayList<>(h.subs);
            subs.add(null);
            for (String sub : subs) {
                for (int[] run : runs(s.marksOf(h.word, sub))) {
                    out.add(h.word + "/" + sub + (sub == null ? "!" : "") + ":" + run[0] + "-" + run[1]);
                }
            }
        }
        return out;
    }

    int stale(int i) {
        if (i < 0 || i > 1) {
            return UNKNOWN;
        }
        if (images[i] == null) {
            return NOT;
        }
        Set<String> old = runSet(images[i]);
        old.removeAll(runSet(now));
        return old.size();
    }

    int saw(int u, int v) {
        if (!page(u) || v < 1 || v > 199) {
            return OUTSIDE;
        }
        if (!pairs.isEmpty() && u <= pairs.get(pairs.size() - 1)[0]) {
            return NOT;
        }
        if (pairs.size() == 20) {
            return FULL;
        }
        pairs.add(new int[] {u, v});
        return pairs.size();
    }

    int forget() {
        int was = pairs.size();
        pairs.clear();
        return was;
    }

    /** All ways, or null if the pairs are too many for that. */
    Integer story(int c, int i) {
        if (i != NONE && (i < 0 || i >= pairs.size())) {
            return UNKNOWN;
        }
        if (c < 0 || c > 20) {
            return OUTSIDE;
        }
        if (pairs.size() > 14) {
            return null;
        }
        int[] best = null;
        // ways counted so that one in which an early pair stands comes ahead
        for (int way = (1 << pairs.size()) - 1; way >= 0; way--) {
            int[] cost = storyCost(c, way);
            if (best == null || Arrays.compare(cost, 0, 2, best, 0, 2) < 0) {
                best = cost;
            }
        }
        return i == NONE ? best[0] : best[2] >> (pairs.size() - 1 - i) & 1;
    }

    private int[] storyCost(int c, int way) {
        int cost = 0;
        int left = 0;
        int[] ahead = null;
        for (int i = 0; i < pairs.size(); i++) {
            int[] pair = pairs.get(i);
            if ((way >> (pairs.size() - 1 - i) & 1) == 0) {
                cost++;
                left++;
            } else {
                cost += ahead != null && pair[1] - pair[0] != ahead[1] - ahead[0] ? c : 0;
                ahead = pair;
            }
        }
        return new int[] {cost, left, way};
    }

    // ---- heads alike, images

    int near(int a, int b) {
        if (!known(a) || !known(b) || a == b) {
            return UNKNOWN;
        }
        String s = now.heads.get(a).word.replace("_", "");
        String t = now.heads.get(b).word.replace("_", "");
        if (s.equals(t)) {
            return 1;
        }
        if (s.equals(t + "s") || t.equals(s + "s")) {
            return 2;
        }
        return oneOff(s, t) || oneOff(t, s) ? 3 : 0;
    }

    private static boolean oneOff(String s, String t) {
        for (int i = 0; i < s.length(); i++) {
            String before = s.substring(0, i);
            String behind = s.substring(i + 1);
            if (t.equals(before + behind)) {
                return true;
            }
            if (t.length() == s.length() && t.startsWith(before) && t.endsWith(behind)) {
                return true;
            }
        }
        return false;
    }

    int join(int a, int b) {
        if (!known(a) || !known(b) || a == b) {
            return UNKNOWN;
        }
        Head one = now.heads.get(a);
        Head other = now.heads.get(b);
        if (one.see != null) {
            return NOT;
        }
        Set<String> subs = new LinkedHashSet<>(one.subs);
        subs.addAll(other.subs);
        if (subs.size() > 6) {
            return FULL;
        }
        one.subs = new ArrayList<>(subs);
        for (Mark m : now.marks) {
            if (m.head.equals(other.word)) {
                m.head = one.word;
            }
        }
        one.also.addAll(other.also);
        one.also.remove(one.word);
        one.asked = Math.min(99, one.asked + other.asked);
        other.see = one.word;
        other.subs.clear();
        other.also.clear();
        other.asked = 0;
        return now.marksOf(one.word).size();
    }

    int keep(int i) {
        if (i < 0 || i > 1) {
            return UNKNOWN;
        }
        images[i] = now.copy();
        return 1;
    }

    int goBack(int i) {
        if (i < 0 || i > 1) {
            return UNKNOWN;
        }
        if (images[i] == null) {
            return NOT;
        }
        now = images[i].copy();
        return 1;
    }
}
