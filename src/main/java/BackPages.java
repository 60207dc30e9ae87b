/** The index at the back of a book; ../shared/DOC.md tells what each call answers. */
public final class BackPages {
    public static final int NONE = -1, UNKNOWN = -1001, OUTSIDE = -1002, NOT = -1003, FULL = -1004;

    private static final int MOST_HEADS = 16, MOST_SUBS = 6, MOST_MARKS = 60, MOST_PAIRS = 20;
    private static final int MOST_BYTES = 600, MOST_TOLD = 8, MOST_IMAGES = 2;
    private static final int LAST_PAGE = 99, MOST_ASKED = 99, LAST_SEEN = 199;
    private static final int MOST_POSTED = 10, MOST_FIT_LINES = 200;

    /** Far above the bytes that 16 heads, 60 marks, 16 sees and 8 alsos can come to. */
    private static final int MOST_PRINTED = 3072;

    /** In the place of a sub: all marks of the head together. */
    private static final int ALL = -2;

    private final Reader reader = new Reader();
    private Book now = new Book();
    private final Book[] images = {new Book(), new Book()};
    private int ordering = 0;
    private int widest = 30;
    private final Press press = new Press();
    private final Sheet sheet = new Sheet(MOST_PRINTED);
    private final Sheet trial = new Sheet(0);
    private final int[] headLines = new int[MOST_HEADS];
    private boolean printedNow = false;
    private final Runs runs = new Runs();
    private final Runs otherRuns = new Runs();
    private final Pages pages = new Pages();
    private final Poster poster = new Poster();
    private final Fitter fitter = new Fitter();
    private final Story pairs = new Story();

    public BackPages() {
    }

    // ---- the text

    public int feed(int n, long bytes) {
        if (n < 1 || n > 8) {
            return OUTSIDE;
        }
        if (reader.length + n > MOST_BYTES) {
            return FULL;
        }
        return reader.takeBytes(n, bytes);
    }

    public int read() {
        reader.begin();
        // each clause takes one byte at least
        for (int i = 0; i < MOST_BYTES && reader.hasMore(); i++) {
            reader.readClause();
        }
        reader.length = 0;
        if (reader.faulty != 0) {
            return -10 - reader.faulty;
        }
        now = reader.changeBook(now);
        printedNow = false;
        return now.heads;
    }

    public int fault() {
        return reader.faultPlace;
    }

    public int count(int what) {
        switch (what) {
            case 0:
                return now.heads;
            case 1:
                return now.marks;
            case 2:
                return reader.length;
            case 3:
                return pairs.size;
            case 4:
                printAll();
                return sheet.lines;
            case 5:
                printAll();
                return sheet.length;
            case 6:
                return Integer.bitCount(now.filledHeads());
            default:
                return OUTSIDE;
        }
    }

    public int head(int h, int what) {
        if (!now.hasHead(h)) {
            return UNKNOWN;
        }
        switch (what) {
            case 0:
                return now.subs[h];
            case 1:
                now.gatherRuns(h, NONE, runs);
                return runs.size;
            case 2:
                return now.see[h];
            case 3:
                return now.also[h];
            case 4:
                return now.askedFor[h];
            case 5:
                return isIn(now.filledHeads(), h) ? 1 : 0;
            case 6:
                printAll();
                return headLines[h];
            default:
                return OUTSIDE;
        }
    }

    public int name(int h, int sub, int i) {
        if (!now.hasEntry(h, sub)) {
            return UNKNOWN;
        }
        long word = now.wordOf(h, sub);
        return i == NONE ? Words.lengthOf(word) : Words.byteOf(word, i);
    }

    public int mark(int k, int what) {
        if (!now.hasMark(k)) {
            return UNKNOWN;
        }
        switch (what) {
            case 0:
                return now.markHead[k];
            case 1:
                return now.markSub[k];
            case 2:
                return now.markFrom[k];
            case 3:
                return now.markTo[k];
            case 4:
                return now.markMain[k] ? 1 : 0;
            default:
                return OUTSIDE;
        }
    }

    public int add(int h, int sub, int p, int q, boolean main) {
        if (!now.hasEntry(h, sub)) {
            return UNKNOWN;
        }
        if (!isPage(p) || !isPage(q) || q < p) {
            return OUTSIDE;
        }
        if (now.marks >= MOST_MARKS) {
            return FULL;
        }
        printedNow = false;
        return now.putMark(h, sub, p, q, main);
    }

    public int drop(int k) {
        if (!now.hasMark(k)) {
            return UNKNOWN;
        }
        now.removeMark(k);
        printedNow = false;
        return now.marks;
    }

    public int asked(int h, int v) {
        if (!now.hasHead(h)) {
            return UNKNOWN;
        }
        if (v < 0 || v > MOST_ASKED) {
            return OUTSIDE;
        }
        int before = now.askedFor[h];
        now.askedFor[h] = v;
        return before;
    }

    public int run(int h, int sub, int i, int what) {
        if (!now.hasEntry(h, sub)) {
            return UNKNOWN;
        }
        if (what < 0 || what > 2) {
            return OUTSIDE;
        }
        now.gatherRuns(h, sub, runs);
        if (i == NONE) {
            return runs.size;
        }
        if (i < 0 || i >= runs.size) {
            return NONE;
        }
        if (what == 0) {
            return runs.from[i];
        }
        if (what == 1) {
            return runs.to[i];
        }
        return runs.main[i] ? 1 : 0;
    }

    // ---- printed

    public int order(int how) {
        if (how < 0 || how > 1) {
            return OUTSIDE;
        }
        int before = ordering;
        ordering = how;
        printedNow = false;
        return before;
    }

    public int at(int i) {
        if (!now.hasHead(i)) {
            return NONE;
        }
        press.arrange(now, ordering);
        return press.headRow.numbers[i];
    }

    public int subAt(int h, int i) {
        if (!now.hasHead(h)) {
            return UNKNOWN;
        }
        if (i < 0 || i >= now.subs[h]) {
            return NONE;
        }
        press.arrangeSubs(now, h, ordering);
        return press.subRow.numbers[i];
    }

    public int width(int v) {
        if (v < 20 || v > 80) {
            return OUTSIDE;
        }
        int before = widest;
        widest = v;
        printedNow = false;
        return before;
    }

    public int print(int i) {
        printAll();
        if (i < 0 || i >= sheet.length || i >= sheet.out.length) {
            return NONE;
        }
        return sheet.out[i];
    }

    /** What is printed is asked for byte by byte: it is made once and kept till something changes. */
    private void printAll() {
        if (printedNow) {
            return;
        }
        press.arrange(now, ordering);
        sheet.clear(widest);
        for (int i = 0; i < now.heads; i++) {
            int h = press.headRow.numbers[i];
            headLines[h] = press.setHead(sheet, now, h, h, false);
        }
        printedNow = true;
    }

    // ---- looking

    public int look(int h, int what) {
        if (!now.hasHead(h)) {
            return UNKNOWN;
        }
        if (what < 0 || what > 1) {
            return OUTSIDE;
        }
        int walked = now.stepsToFilled(h, now.filledHeads());
        return what == 1 || walked == NONE ? walked : now.headAfter(h, walked);
    }

    public int steps(int h, int page) {
        if (!now.hasHead(h)) {
            return UNKNOWN;
        }
        if (!isPage(page)) {
            return OUTSIDE;
        }
        int wanted = now.headsWith(page);
        int reached = 1 << h;
        for (int walked = 0; walked <= MOST_HEADS; walked++) {
            if ((reached & wanted) != 0) {
                return walked;
            }
            reached = now.oneStepOn(reached);
        }
        return NONE;
    }

    public int finds(int h, int k) {
        if (!now.hasHead(h)) {
            return UNKNOWN;
        }
        if (k < 0 || k > 9) {
            return OUTSIDE;
        }
        int reached = 1 << h;
        for (int walked = 0; walked < k; walked++) {
            reached = now.oneStepOn(reached);
        }
        pages.gather(now);
        return pages.sizeOf(reached);
    }

    public int trouble(int what, int m) {
        if (what < 0 || what > 6 || m < 0 || m > 20) {
            return OUTSIDE;
        }
        pages.gather(now);
        int filled = now.filledHeads();
        int set = 0;
        for (int h = 0; h < now.heads; h++) {
            if (hasTrouble(what, m, h, filled)) {
                set |= 1 << h;
            }
        }
        return set;
    }

    private boolean hasTrouble(int what, int m, int h, int filled) {
        boolean isFilled = isIn(filled, h);
        switch (what) {
            case 0:
                return !isFilled && now.stepsToFilled(h, filled) == NONE;
            case 1:
                return now.goesRound(h);
            case 2:
                return isFilled && now.see[h] != NONE;
            case 3:
                now.gatherRuns(h, NONE, runs);
                return runs.size > m && now.markedSubs(h) == 0;
            case 4:
                return Integer.bitCount(now.markedSubs(h)) == 1;
            case 5:
                return (now.also[h] & ~filled) != 0;
            default:
                return isFilled && pages.hasTwin(h, now.heads);
        }
    }

    // ---- posted, folded, left out

    public int posted(int set) {
        int all = (1 << now.heads) - 1;
        if ((set & ~all) != 0) {
            return UNKNOWN;
        }
        if ((set & ~poster.postable(now)) != 0) {
            return NOT;
        }
        printAll();
        trial.clear(widest);
        int filled = now.filledHeads();
        int lines = 0;
        for (int h = 0; h < now.heads; h++) {
            lines += isIn(set, h) ? press.setHead(trial, now, h, sourceOf(h, filled), false) : headLines[h];
        }
        return lines;
    }

    private int sourceOf(int h, int filled) {
        return now.headAfter(h, now.stepsToFilled(h, filled));
    }

    public int posting(int n, int what) {
        if (n < 0 || n > 999 || what < 0 || what > 2) {
            return OUTSIDE;
        }
        printAll();
        if (sheet.lines > n) {
            return NONE;
        }
        offerPosts();
        poster.choose(sheet.lines, n);
        if (what == 0) {
            return poster.bestSet;
        }
        return what == 1 ? poster.bestSaved : poster.bestLines;
    }

    private void offerPosts() {
        int filled = now.filledHeads();
        int able = poster.postable(now);
        trial.clear(widest);
        poster.clear();
        for (int h = 0; h < now.heads; h++) {
            if (isIn(able, h)) {
                int saved = now.askedFor[h] * now.stepsToFilled(h, filled);
                int lines = press.setHead(trial, now, h, sourceOf(h, filled), false);
                poster.offer(1 << h, saved, lines - headLines[h]);
            }
        }
    }

    public int fit(int n, int h) {
        if (h != NONE && !now.hasHead(h)) {
            return UNKNOWN;
        }
        if (n < 0 || n > MOST_FIT_LINES) {
            return OUTSIDE;
        }
        printAll();
        offerFits();
        fitter.choose(now.heads, n);
        return h == NONE ? fitter.loss : fitter.choice[h];
    }

    private void offerFits() {
        trial.clear(widest);
        for (int h = 0; h < now.heads; h++) {
            fitter.clear(h);
            fitter.offer(h, 0, headLines[h], 0);
            // a head that is not printed has no lines; all that are have one at least
            if (headLines[h] > 0) {
                int weight = now.askedFor[h] + 1;
                int marked = Integer.bitCount(now.markedSubs(h));
                if (marked > 0) {
                    fitter.offer(h, 1, press.setHead(trial, now, h, h, true), weight * marked);
                }
                fitter.offer(h, 2, 0, weight * 20);
            }
        }
    }

    // ---- pages

    public int putIn(int p, int n) {
        if (p < 0 || p > LAST_PAGE || n < 1 || n > 9) {
            return OUTSIDE;
        }
        if (now.lastPageAbove(p) + n > LAST_PAGE) {
            return NOT;
        }
        printedNow = false;
        return now.pushPages(p, n);
    }

    public int takeOut(int p, int q) {
        if (!isPage(p) || !isPage(q) || q < p) {
            return OUTSIDE;
        }
        printedNow = false;
        return now.cutPages(p, q);
    }

    public int stale(int i) {
        if (!isImage(i)) {
            return UNKNOWN;
        }
        if (!images[i].kept) {
            return NOT;
        }
        Book old = images[i];
        int wrong = 0;
        for (int h = 0; h < old.heads; h++) {
            int same = now.findHead(old.words[h]);
            wrong += staleRuns(old, h, NONE, same, NONE);
            for (int sub = 0; sub < old.subs[h]; sub++) {
                int sameSub = now.findSub(same, old.wordOf(h, sub));
                wrong += staleRuns(old, h, sub, sameSub == NONE ? NONE : same, sameSub);
            }
        }
        return wrong;
    }

    /** A newHead of NONE: there is no such entry now. */
    private int staleRuns(Book old, int h, int sub, int newHead, int newSub) {
        old.gatherRuns(h, sub, runs);
        otherRuns.clear();
        if (newHead != NONE) {
            now.gatherRuns(newHead, newSub, otherRuns);
        }
        int wrong = 0;
        for (int i = 0; i < runs.size; i++) {
            if (!otherRuns.holds(runs.from[i], runs.to[i])) {
                wrong++;
            }
        }
        return wrong;
    }

    public int saw(int u, int v) {
        if (!isPage(u) || v < 1 || v > LAST_SEEN) {
            return OUTSIDE;
        }
        if (u <= pairs.lastTold()) {
            return NOT;
        }
        if (pairs.size >= MOST_PAIRS) {
            return FULL;
        }
        return pairs.put(u, v);
    }

    public int forget() {
        int before = pairs.size;
        pairs.size = 0;
        return before;
    }

    public int story(int c, int i) {
        if (i != NONE && (i < 0 || i >= pairs.size)) {
            return UNKNOWN;
        }
        if (c < 0 || c > 20) {
            return OUTSIDE;
        }
        pairs.weigh(c);
        if (i == NONE) {
            return pairs.leastCost();
        }
        return pairs.standsAt(i, c) ? 1 : 0;
    }

    // ---- heads alike, images

    public int near(int a, int b) {
        if (!areTwoHeads(a, b)) {
            return UNKNOWN;
        }
        return Words.nearness(now.words[a], now.words[b]);
    }

    public int join(int a, int b) {
        if (!areTwoHeads(a, b)) {
            return UNKNOWN;
        }
        if (now.see[a] != NONE) {
            return NOT;
        }
        if (now.subs[a] + now.subsMissing(a, b) > MOST_SUBS) {
            return FULL;
        }
        now.joinMarks(a, b);
        now.joinRest(a, b);
        printedNow = false;
        return now.marksOf(a);
    }

    public int keep(int i) {
        if (!isImage(i)) {
            return UNKNOWN;
        }
        images[i].copyFrom(now);
        images[i].kept = true;
        return 1;
    }

    public int goBack(int i) {
        if (!isImage(i)) {
            return UNKNOWN;
        }
        if (!images[i].kept) {
            return NOT;
        }
        now.copyFrom(images[i]);
        printedNow = false;
        return 1;
    }

    private boolean areTwoHeads(int a, int b) {
        return now.hasHead(a) && now.hasHead(b) && a != b;
    }

    private static boolean isPage(int p) {
        return p >= 1 && p <= LAST_PAGE;
    }

    private static boolean isImage(int i) {
        return i >= 0 && i < MOST_IMAGES;
    }

    private static boolean isIn(int set, int h) {
        return (set >> h & 1) == 1;
    }

    /**
     * Words are kept as one long: five bits a byte, the first byte highest, 0 behind the end. So the
     * order byte by byte, a beginning ahead of the longer one, is the order of the longs.
     */
    private static final class Words {
        static final int LONGEST = 12, BITS = 5, BELOW_FIRST = 94, LINE_CODE = 1, S_CODE = 's' - BELOW_FIRST;
        static final long WHOLE = (1L << LONGEST * BITS) - 1;

        static long codeAt(int b, int i) {
            return (long) (b - BELOW_FIRST) << (LONGEST - 1 - i) * BITS;
        }

        static int codeOf(long word, int i) {
            return (int) (word >>> (LONGEST - 1 - i) * BITS) & 31;
        }

        static int lengthOf(long word) {
            int length = 0;
            while (length < LONGEST && codeOf(word, length) != 0) {
                length++;
            }
            return length;
        }

        static int byteOf(long word, int i) {
            if (i < 0 || i >= LONGEST || codeOf(word, i) == 0) {
                return NONE;
            }
            return codeOf(word, i) + BELOW_FIRST;
        }

        static long withoutLines(long word) {
            long letters = 0;
            int length = 0;
            for (int i = 0; i < LONGEST; i++) {
                int code = codeOf(word, i);
                if (code > LINE_CODE) {
                    letters |= codeAt(code + BELOW_FIRST, length);
                    length++;
                }
            }
            return letters;
        }

        static int nearness(long one, long other) {
            long a = withoutLines(one);
            long b = withoutLines(other);
            if (a == b) {
                return 1;
            }
            if (isPlural(a, b) || isPlural(b, a)) {
                return 2;
            }
            return isOneByteOff(a, b) ? 3 : 0;
        }

        static boolean isPlural(long many, long single) {
            int length = lengthOf(single);
            return length < LONGEST && many == (single | codeAt(S_CODE + BELOW_FIRST, length));
        }

        static boolean isOneByteOff(long a, long b) {
            int same = 0;
            while (same < LONGEST - 1 && codeOf(a, same) == codeOf(b, same)) {
                same++;
            }
            long restA = behind(a, same);
            long restB = behind(b, same);
            return behind(restA, 1) == behind(restB, 1) || behind(restA, 1) == restB || restA == behind(restB, 1);
        }

        static long behind(long word, int bytes) {
            return word << bytes * BITS & WHOLE;
        }
    }

    /** Heads, subs, marks and what is told of them: all that an image keeps. */
    private static final class Book {
        int heads = 0;
        final long[] words = new long[MOST_HEADS];
        final int[] subs = new int[MOST_HEADS];
        final long[] subWords = new long[MOST_HEADS * MOST_SUBS];
        final int[] see = new int[MOST_HEADS];
        final int[] also = new int[MOST_HEADS];
        final int[] askedFor = new int[MOST_HEADS];
        int marks = 0;
        final int[] markHead = new int[MOST_MARKS];
        final int[] markSub = new int[MOST_MARKS];
        final int[] markFrom = new int[MOST_MARKS];
        final int[] markTo = new int[MOST_MARKS];
        final boolean[] markMain = new boolean[MOST_MARKS];
        /** Of an image alone: whether it was kept. */
        boolean kept = false;

        void clear() {
            heads = 0;
            marks = 0;
        }

        void copyFrom(Book other) {
            heads = other.heads;
            System.arraycopy(other.words, 0, words, 0, MOST_HEADS);
            System.arraycopy(other.subs, 0, subs, 0, MOST_HEADS);
            System.arraycopy(other.subWords, 0, subWords, 0, MOST_HEADS * MOST_SUBS);
            System.arraycopy(other.see, 0, see, 0, MOST_HEADS);
            System.arraycopy(other.also, 0, also, 0, MOST_HEADS);
            System.arraycopy(other.askedFor, 0, askedFor, 0, MOST_HEADS);
            marks = other.marks;
            System.arraycopy(other.markHead, 0, markHead, 0, MOST_MARKS);
            System.arraycopy(other.markSub, 0, markSub, 0, MOST_MARKS);
            System.arraycopy(other.markFrom, 0, markFrom, 0, MOST_MARKS);
            System.arraycopy(other.markTo, 0, markTo, 0, MOST_MARKS);
            System.arraycopy(other.markMain, 0, markMain, 0, MOST_MARKS);
        }

        boolean hasHead(int h) {
            return h >= 0 && h < heads;
        }

        boolean hasEntry(int h, int sub) {
            return hasHead(h) && sub >= NONE && sub < subs[h];
        }

        boolean hasMark(int k) {
            return k >= 0 && k < marks;
        }

        long wordOf(int h, int sub) {
            return sub == NONE ? words[h] : subWords[h * MOST_SUBS + sub];
        }

        int findHead(long word) {
            for (int h = 0; h < heads; h++) {
                if (words[h] == word) {
                    return h;
                }
            }
            return NONE;
        }

        int findSub(int h, long word) {
            if (!hasHead(h)) {
                return NONE;
            }
            for (int sub = 0; sub < subs[h]; sub++) {
                if (subWords[h * MOST_SUBS + sub] == word) {
                    return sub;
                }
            }
            return NONE;
        }

        /** The head's number; NONE: there is no room. */
        int putHead(long word) {
            if (heads >= MOST_HEADS) {
                return NONE;
            }
            words[heads] = word;
            subs[heads] = 0;
            see[heads] = NONE;
            also[heads] = 0;
            askedFor[heads] = 0;
            heads++;
            return heads - 1;
        }

        /** The sub's number; NONE: there is no room. */
        int putSub(int h, long word) {
            if (subs[h] >= MOST_SUBS) {
                return NONE;
            }
            subWords[h * MOST_SUBS + subs[h]] = word;
            subs[h]++;
            return subs[h] - 1;
        }

        /** The mark's number; NONE: there is no room. */
        int putMark(int h, int sub, int p, int q, boolean main) {
            if (marks >= MOST_MARKS) {
                return NONE;
            }
            markHead[marks] = h;
            markSub[marks] = sub;
            markFrom[marks] = p;
            markTo[marks] = q;
            markMain[marks] = main;
            marks++;
            return marks - 1;
        }

        void removeMark(int k) {
            for (int later = k + 1; later < marks; later++) {
                moveMark(later, later - 1);
            }
            marks--;
        }

        void moveMark(int k, int place) {
            markHead[place] = markHead[k];
            markSub[place] = markSub[k];
            markFrom[place] = markFrom[k];
            markTo[place] = markTo[k];
            markMain[place] = markMain[k];
        }

        int marksOf(int h) {
            int size = 0;
            for (int k = 0; k < marks; k++) {
                if (markHead[k] == h) {
                    size++;
                }
            }
            return size;
        }

        int filledHeads() {
            int set = 0;
            for (int k = 0; k < marks; k++) {
                set |= 1 << markHead[k];
            }
            return set;
        }

        int markedSubs(int h) {
            int set = 0;
            for (int k = 0; k < marks; k++) {
                if (markHead[k] == h && markSub[k] != NONE) {
                    set |= 1 << markSub[k];
                }
            }
            return set;
        }

        /** sub: NONE the head's own marks, ALL every mark of it. */
        void gatherRuns(int h, int sub, Runs into) {
            into.clear();
            for (int k = 0; k < marks; k++) {
                if (markHead[k] == h && (sub == ALL || markSub[k] == sub)) {
                    into.put(markFrom[k], markTo[k], markMain[k]);
                }
            }
        }

        int headsWith(int page) {
            int set = 0;
            for (int k = 0; k < marks; k++) {
                if (markFrom[k] <= page && page <= markTo[k]) {
                    set |= 1 << markHead[k];
                }
            }
            return set;
        }

        /** How many sees lead from h to a filled head; NONE: none is come to. */
        int stepsToFilled(int h, int filled) {
            int x = h;
            for (int walked = 0; walked < MOST_HEADS; walked++) {
                if (isIn(filled, x)) {
                    return walked;
                }
                x = see[x];
                if (x == NONE) {
                    return NONE;
                }
            }
            return NONE;
        }

        int headAfter(int h, int walked) {
            int x = h;
            for (int i = 0; i < walked && see[x] != NONE; i++) {
                x = see[x];
            }
            return x;
        }

        boolean goesRound(int h) {
            int x = h;
            for (int walked = 0; walked < MOST_HEADS; walked++) {
                x = see[x];
                if (x == NONE || x == h) {
                    return x == h;
                }
            }
            return false;
        }

        /** The set itself and all that its heads see or see also. */
        int oneStepOn(int set) {
            int more = set;
            for (int h = 0; h < heads; h++) {
                if (isIn(set, h)) {
                    more |= also[h];
                    if (see[h] != NONE) {
                        more |= 1 << see[h];
                    }
                }
            }
            return more;
        }

        /** The last page of all marks, if it is above p; 0: none is. */
        int lastPageAbove(int p) {
            int last = 0;
            for (int k = 0; k < marks; k++) {
                if (markTo[k] > p) {
                    last = Math.max(last, markTo[k]);
                }
            }
            return last;
        }

        int pushPages(int p, int n) {
            int changed = 0;
            for (int k = 0; k < marks; k++) {
                if (markTo[k] > p) {
                    changed++;
                    markTo[k] += n;
                    if (markFrom[k] > p) {
                        markFrom[k] += n;
                    }
                }
            }
            return changed;
        }

        int cutPages(int p, int q) {
            int less = q - p + 1;
            int left = 0;
            for (int k = 0; k < marks; k++) {
                int from = markFrom[k] < p ? markFrom[k] : Math.max(markFrom[k] - less, p);
                int to = markTo[k] > q ? markTo[k] - less : Math.min(markTo[k], p - 1);
                if (from <= to) {
                    moveMark(k, left);
                    markFrom[left] = from;
                    markTo[left] = to;
                    left++;
                }
            }
            int gone = marks - left;
            marks = left;
            return gone;
        }

        int subsMissing(int a, int b) {
            int missing = 0;
            for (int sub = 0; sub < subs[b]; sub++) {
                if (findSub(a, wordOf(b, sub)) == NONE) {
                    missing++;
                }
            }
            return missing;
        }

        void joinMarks(int a, int b) {
            giveMarks(b, NONE, a, NONE);
            for (int sub = 0; sub < subs[b]; sub++) {
                long word = wordOf(b, sub);
                int same = findSub(a, word);
                giveMarks(b, sub, a, same == NONE ? putSub(a, word) : same);
            }
            subs[b] = 0;
        }

        void giveMarks(int h, int sub, int newHead, int newSub) {
            for (int k = 0; k < marks; k++) {
                if (markHead[k] == h && markSub[k] == sub) {
                    markHead[k] = newHead;
                    markSub[k] = newSub;
                }
            }
        }

        void joinRest(int a, int b) {
            also[a] |= also[b] & ~(1 << a);
            also[b] = 0;
            askedFor[a] = Math.min(askedFor[a] + askedFor[b], MOST_ASKED);
            askedFor[b] = 0;
            see[b] = a;
        }
    }

    /** The runs of one entry, from the least page on. */
    private static final class Runs {
        int size = 0;
        final int[] from = new int[MOST_MARKS];
        final int[] to = new int[MOST_MARKS];
        final boolean[] main = new boolean[MOST_MARKS];

        void clear() {
            size = 0;
        }

        /** Runs from first up to (not with) last touch the new pages and become one with them. */
        void put(int p, int q, boolean isMain) {
            int first = 0;
            while (first < size && to[first] + 1 < p) {
                first++;
            }
            int last = first;
            int least = p;
            int most = q;
            boolean some = isMain;
            while (last < size && from[last] <= q + 1) {
                least = Math.min(least, from[last]);
                most = Math.max(most, to[last]);
                some = some || main[last];
                last++;
            }
            int tail = size - last;
            if (first + 1 + tail > MOST_MARKS) {
                return;
            }
            System.arraycopy(from, last, from, first + 1, tail);
            System.arraycopy(to, last, to, first + 1, tail);
            System.arraycopy(main, last, main, first + 1, tail);
            from[first] = least;
            to[first] = most;
            main[first] = some;
            size = first + 1 + tail;
        }

        boolean holds(int p, int q) {
            for (int i = 0; i < size; i++) {
                if (from[i] == p && to[i] == q) {
                    return true;
                }
            }
            return false;
        }
    }

    /** The text's clauses become a book; the first fault ends it. */
    private static final class Reader {
        static final int MARK = 0, SEE = 1, ALSO = 2, ASKED = 3;

        int length = 0;
        int faulty = 0;
        int faultPlace = NONE;
        private final byte[] text = new byte[MOST_BYTES];
        private int place = 0;
        private Book book = new Book();
        private int sees = 0;
        private int alsos = 0;
        private int askedTold = 0;

        /** How many bytes there are then; what has no room is not taken. */
        int takeBytes(int n, long bytes) {
            for (int i = n - 1; i >= 0 && length < text.length; i--) {
                text[length] = (byte) (bytes >>> 8 * i);
                length++;
            }
            return length;
        }

        /** The book that was read; the reader writes the next one over the other. */
        Book changeBook(Book other) {
            Book ready = book;
            book = other;
            return ready;
        }

        void begin() {
            book.clear();
            place = 0;
            faulty = 0;
            faultPlace = NONE;
            sees = 0;
            alsos = 0;
            askedTold = 0;
        }

        boolean hasMore() {
            skipBlanks();
            return place < length && faulty == 0;
        }

        /** Always NONE, for those that would have answered a number. */
        int fail(int number, int where) {
            if (faulty == 0) {
                faulty = number;
                faultPlace = where;
            }
            return NONE;
        }

        int byteHere() {
            return place < length ? text[place] : 0;
        }

        void skipBlanks() {
            while (place < length && text[place] == ' ') {
                place++;
            }
        }

        static boolean isLetter(int b) {
            return b >= 'a' && b <= 'z' || b == '_';
        }

        static boolean isFigure(int b) {
            return b >= '0' && b <= '9';
        }

        void skipWord() {
            while (place < length && isLetter(text[place])) {
                place++;
            }
        }

        void skipNumber() {
            while (place < length && isFigure(text[place])) {
                place++;
            }
        }

        boolean isWord(int from, int to, String word) {
            if (to - from != word.length()) {
                return false;
            }
            for (int i = 0; i < word.length(); i++) {
                if (text[from + i] != word.charAt(i)) {
                    return false;
                }
            }
            return true;
        }

        void readClause() {
            int from = place;
            skipWord();
            int kind = kindOf(from, place);
            if (kind == NONE) {
                fail(1, from);
            } else if (isOneTooMany(kind)) {
                fail(5, from);
            } else if (kind == MARK) {
                readMark();
            } else if (kind == ASKED) {
                readAsked();
            } else {
                readLink(kind);
            }
            if (faulty == 0) {
                readEnd();
            }
        }

        int kindOf(int from, int to) {
            if (isWord(from, to, "mark")) {
                return MARK;
            }
            if (isWord(from, to, "see")) {
                return SEE;
            }
            if (isWord(from, to, "also")) {
                return ALSO;
            }
            return isWord(from, to, "asked") ? ASKED : NONE;
        }

        boolean isOneTooMany(int kind) {
            switch (kind) {
                case MARK:
                    return book.marks >= MOST_MARKS;
                case SEE:
                    return sees >= MOST_TOLD;
                case ALSO:
                    return alsos >= MOST_TOLD;
                default:
                    return false;
            }
        }

        void readEnd() {
            skipBlanks();
            if (byteHere() == ';') {
                place++;
            } else {
                fail(1, place);
            }
        }

        void readMark() {
            int h = readHead();
            int sub = NONE;
            skipBlanks();
            if (faulty == 0 && byteHere() == '/') {
                place++;
                sub = readSub(h);
            }
            int p = readNumber(1, LAST_PAGE);
            int q = p;
            skipBlanks();
            if (faulty == 0 && byteHere() == '-') {
                place++;
                q = readNumber(p + 1, LAST_PAGE);
            }
            boolean main = readMain();
            if (faulty == 0) {
                book.putMark(h, sub, p, q, main);
            }
        }

        boolean readMain() {
            skipBlanks();
            if (faulty != 0 || !isLetter(byteHere())) {
                return false;
            }
            int from = place;
            skipWord();
            if (!isWord(from, place, "main")) {
                fail(1, from);
            }
            return true;
        }

        void readLink(int kind) {
            int h = readHead();
            if (faulty == 0 && kind == SEE && book.see[h] != NONE) {
                fail(6, wordPlace(h));
            }
            int other = readHead();
            if (faulty != 0) {
                return;
            }
            if (other == h || kind == ALSO && isIn(book.also[h], other)) {
                fail(6, wordPlace(other));
            } else if (kind == SEE) {
                book.see[h] = other;
                sees++;
            } else {
                book.also[h] |= 1 << other;
                alsos++;
            }
        }

        void readAsked() {
            int h = readHead();
            if (faulty == 0 && isIn(askedTold, h)) {
                fail(6, wordPlace(h));
            }
            int times = readNumber(0, MOST_ASKED);
            if (faulty == 0) {
                askedTold |= 1 << h;
                book.askedFor[h] = times;
            }
        }

        /** Where the head's word that has just been read begins. */
        int wordPlace(int h) {
            return place - Words.lengthOf(book.words[h]);
        }

        /** The head's number, a new one if need be; NONE: a fault. */
        int readHead() {
            int from = wordStart();
            if (faulty != 0) {
                return NONE;
            }
            long word = packWord(from);
            int h = book.findHead(word);
            if (h == NONE) {
                h = book.putHead(word);
            }
            return h == NONE ? fail(4, from) : h;
        }

        int readSub(int h) {
            int from = wordStart();
            if (faulty != 0) {
                return NONE;
            }
            long word = packWord(from);
            int sub = book.findSub(h, word);
            if (sub == NONE) {
                sub = book.putSub(h, word);
            }
            return sub == NONE ? fail(4, from) : sub;
        }

        /** Goes behind the next word, which must be fit for a head or sub. */
        int wordStart() {
            skipBlanks();
            int from = place;
            if (faulty != 0 || !isLetter(byteHere())) {
                return fail(1, from);
            }
            skipWord();
            return isFit(from, place) ? from : fail(3, from);
        }

        boolean isFit(int from, int to) {
            if (to - from > Words.LONGEST || text[from] == '_' || text[to - 1] == '_') {
                return false;
            }
            for (int i = from + 1; i < to; i++) {
                if (text[i] == '_' && text[i - 1] == '_') {
                    return false;
                }
            }
            return true;
        }

        long packWord(int from) {
            long word = 0;
            for (int i = from; i < place; i++) {
                word |= Words.codeAt(text[i], i - from);
            }
            return word;
        }

        int readNumber(int least, int most) {
            skipBlanks();
            int from = place;
            if (faulty != 0 || !isFigure(byteHere())) {
                return fail(1, from);
            }
            skipNumber();
            if (place - from > 2) {
                return fail(2, from);
            }
            int number = 0;
            for (int i = from; i < place; i++) {
                number = number * 10 + text[i] - '0';
            }
            return number < least || number > most ? fail(2, from) : number;
        }
    }

    /** Numbers from 0 on, in the order of their words. */
    private static final class Row {
        final int[] numbers = new int[MOST_HEADS];
        final long[] keys = new long[MOST_HEADS];

        void sort(long[] words, int first, int size, int how) {
            for (int i = 0; i < size; i++) {
                long word = words[first + i];
                long key = how == 0 ? Words.withoutLines(word) : word;
                int place = i;
                while (place > 0 && keys[place - 1] > key) {
                    keys[place] = keys[place - 1];
                    numbers[place] = numbers[place - 1];
                    place--;
                }
                keys[place] = key;
                numbers[place] = i;
            }
        }
    }

    /** Bytes printed, and their lines; of what is beyond its room lines and bytes are counted alone. */
    private static final class Sheet {
        static final int LINE_END = 10;

        final byte[] out;
        int length = 0;
        int lines = 0;
        private int column = 0;
        private int widest = 0;
        private final byte[] unit = new byte[40];
        private int unitLength = 0;

        Sheet(int room) {
            out = new byte[Math.max(room, 0)];
        }

        void clear(int width) {
            length = 0;
            lines = 0;
            column = 0;
            unitLength = 0;
            widest = width;
        }

        void putByte(int b) {
            if (unitLength < unit.length) {
                unit[unitLength] = (byte) b;
                unitLength++;
            }
        }

        void putText(String s) {
            for (int i = 0; i < s.length(); i++) {
                putByte(s.charAt(i));
            }
        }

        void putWord(long word) {
            int size = Words.lengthOf(word);
            for (int i = 0; i < size; i++) {
                putByte(Words.byteOf(word, i));
            }
        }

        void putPage(int page) {
            if (page > 9) {
                putByte('0' + page / 10);
            }
            putByte('0' + page % 10);
        }

        void putRun(int from, int to, boolean main) {
            if (main) {
                putByte('*');
            }
            putPage(from);
            if (to > from) {
                putByte('-');
                putPage(to);
            }
        }

        void write(int b) {
            if (length < out.length) {
                out[length] = (byte) b;
            }
            length++;
            column++;
            if (b == LINE_END) {
                lines++;
                column = 0;
            }
        }

        /** The unit that was put, if one was, becomes the row's next one. */
        void placeUnit() {
            if (unitLength == 0) {
                return;
            }
            if (column > 0) {
                write(',');
                if (column + 1 + unitLength <= widest) {
                    write(' ');
                } else {
                    write(LINE_END);
                    for (int i = 0; i < 4; i++) {
                        write(' ');
                    }
                }
            }
            for (int i = 0; i < unitLength; i++) {
                write(unit[i]);
            }
            unitLength = 0;
        }

        void endRow() {
            placeUnit();
            write(LINE_END);
        }
    }

    /** Sets heads on a sheet, as they are, posted or folded. */
    private static final class Press {
        final Row headRow = new Row();
        final Row subRow = new Row();
        private int ordering = 0;
        private final Runs runs = new Runs();

        void arrange(Book book, int how) {
            ordering = how;
            headRow.sort(book.words, 0, book.heads, how);
        }

        void arrangeSubs(Book book, int h, int how) {
            subRow.sort(book.subWords, h * MOST_SUBS, book.subs[h], how);
        }

        /** How many lines; source: whose marks h has; another one than h itself: h is posted. */
        int setHead(Sheet sheet, Book book, int h, int source, boolean folded) {
            int before = sheet.lines;
            int other = source == h ? book.see[h] : NONE;
            if (book.marksOf(source) > 0) {
                sheet.putWord(book.words[h]);
                setRuns(sheet, book, source, folded ? ALL : NONE);
                int marked = folded ? 0 : book.markedSubs(source);
                arrangeSubs(book, source, ordering);
                for (int i = 0; i < book.subs[source]; i++) {
                    int sub = subRow.numbers[i];
                    if (isIn(marked, sub)) {
                        sheet.putText("  ");
                        sheet.putWord(book.wordOf(source, sub));
                        setRuns(sheet, book, source, sub);
                    }
                }
                setSee(sheet, book, "  see ", other);
            } else if (other != NONE) {
                sheet.putWord(book.words[h]);
                setSee(sheet, book, ", see ", other);
            } else if (book.also[h] != 0) {
                sheet.putWord(book.words[h]);
                sheet.endRow();
            }
            setAlso(sheet, book, book.also[h]);
            return sheet.lines - before;
        }

        /** A row: what was put already, then the entry's runs. */
        void setRuns(Sheet sheet, Book book, int h, int sub) {
            sheet.placeUnit();
            book.gatherRuns(h, sub, runs);
            for (int i = 0; i < runs.size; i++) {
                sheet.putRun(runs.from[i], runs.to[i], runs.main[i]);
                sheet.placeUnit();
            }
            sheet.endRow();
        }

        void setSee(Sheet sheet, Book book, String lead, int other) {
            if (other != NONE) {
                sheet.putText(lead);
                sheet.putWord(book.words[other]);
                sheet.endRow();
            }
        }

        void setAlso(Sheet sheet, Book book, int set) {
            if (set == 0) {
                return;
            }
            sheet.putText("  see also ");
            for (int i = 0; i < book.heads; i++) {
                int h = headRow.numbers[i];
                if (isIn(set, h)) {
                    sheet.putWord(book.words[h]);
                    sheet.placeUnit();
                }
            }
            sheet.endRow();
        }
    }

    /** The pages that heads have, page p as bit p of 128. */
    private static final class Pages {
        private final long[] low = new long[MOST_HEADS];
        private final long[] high = new long[MOST_HEADS];

        void gather(Book book) {
            for (int h = 0; h < MOST_HEADS; h++) {
                low[h] = 0;
                high[h] = 0;
            }
            for (int k = 0; k < book.marks; k++) {
                int p = book.markFrom[k];
                int q = book.markTo[k];
                low[book.markHead[k]] |= below(q + 1) & ~below(p);
                high[book.markHead[k]] |= below(q + 1 - 64) & ~below(p - 64);
            }
        }

        static long below(int bit) {
            if (bit <= 0) {
                return 0;
            }
            return bit >= 64 ? -1L : (1L << bit) - 1;
        }

        int sizeOf(int set) {
            long someLow = 0;
            long someHigh = 0;
            for (int h = 0; h < MOST_HEADS; h++) {
                if (isIn(set, h)) {
                    someLow |= low[h];
                    someHigh |= high[h];
                }
            }
            return Long.bitCount(someLow) + Long.bitCount(someHigh);
        }

        boolean hasTwin(int h, int heads) {
            for (int other = 0; other < heads; other++) {
                if (other != h && low[other] == low[h] && high[other] == high[h]) {
                    return true;
                }
            }
            return false;
        }
    }

    /** Which heads to post: all sets of the first ten that can be are gone through. */
    private static final class Poster {
        int bestSet = 0;
        int bestSaved = 0;
        int bestLines = 0;
        private int size = 0;
        private final int[] bits = new int[MOST_POSTED];
        private final int[] saves = new int[MOST_POSTED];
        private final int[] lines = new int[MOST_POSTED];

        int postable(Book book) {
            int filled = book.filledHeads();
            int set = 0;
            for (int h = 0; h < book.heads; h++) {
                if (book.stepsToFilled(h, filled) > 0) {
                    set |= 1 << h;
                }
            }
            return set;
        }

        void clear() {
            size = 0;
        }

        void offer(int bit, int saved, int moreLines) {
            if (size < MOST_POSTED) {
                bits[size] = bit;
                saves[size] = saved;
                lines[size] = moreLines;
                size++;
            }
        }

        /** Sets come from the least on, so that only a better one takes the place of the best. */
        void choose(int plainLines, int mostLines) {
            int set = 0;
            int saved = 0;
            int used = plainLines;
            bestSet = 0;
            bestSaved = 0;
            bestLines = plainLines;
            for (int step = 1; step < 1 << size; step++) {
                // counting one on: the lowest bit of step comes in, those below it go out
                int in = 0;
                while (in < size - 1 && !isIn(step, in)) {
                    set -= bits[in];
                    saved -= saves[in];
                    used -= lines[in];
                    in++;
                }
                set += bits[in];
                saved += saves[in];
                used += lines[in];
                if (used <= mostLines && (saved > bestSaved || saved == bestSaved && used < bestLines)) {
                    bestSet = set;
                    bestSaved = saved;
                    bestLines = used;
                }
            }
        }
    }

    /** Which heads to fold or leave out: the least loss of the heads from h on in just so many lines. */
    private static final class Fitter {
        static final int WAYS = 3, ROOM = MOST_FIT_LINES + 1, NEVER = 1 << 28;

        int loss = 0;
        final int[] choice = new int[MOST_HEADS];
        private final int[] wayLines = new int[MOST_HEADS * WAYS];
        private final int[] wayLoss = new int[MOST_HEADS * WAYS];
        private final int[] least = new int[(MOST_HEADS + 1) * ROOM];

        void clear(int h) {
            for (int way = 0; way < WAYS; way++) {
                wayLines[h * WAYS + way] = 0;
                wayLoss[h * WAYS + way] = NEVER;
            }
        }

        void offer(int h, int way, int lines, int lost) {
            wayLines[h * WAYS + way] = lines;
            wayLoss[h * WAYS + way] = lost;
        }

        void choose(int heads, int mostLines) {
            int most = Math.min(mostLines, mostNeeded(heads));
            for (int lines = 0; lines <= most; lines++) {
                least[heads * ROOM + lines] = lines == 0 ? 0 : NEVER;
            }
            for (int h = heads - 1; h >= 0; h--) {
                for (int lines = 0; lines <= most; lines++) {
                    least[h * ROOM + lines] = leastFrom(h, lines);
                }
            }
            int best = 0;
            for (int lines = 1; lines <= most; lines++) {
                if (least[lines] < least[best]) {
                    best = lines;
                }
            }
            loss = least[best];
            follow(heads, best);
        }

        int mostNeeded(int heads) {
            int sum = 0;
            for (int h = 0; h < heads; h++) {
                sum += Math.max(wayLines[h * WAYS], wayLines[h * WAYS + 1]);
            }
            return sum;
        }

        int leastFrom(int h, int lines) {
            int best = NEVER;
            for (int way = 0; way < WAYS; way++) {
                best = Math.min(best, lossBy(h, way, lines));
            }
            return best;
        }

        int lossBy(int h, int way, int lines) {
            int left = lines - wayLines[h * WAYS + way];
            int lost = wayLoss[h * WAYS + way];
            if (left < 0 || lost == NEVER) {
                return NEVER;
            }
            return Math.min(NEVER, lost + least[(h + 1) * ROOM + left]);
        }

        /** From the first head on the first way that keeps to the least loss. */
        void follow(int heads, int lines) {
            int left = lines;
            for (int h = 0; h < heads; h++) {
                int way = 0;
                while (way < WAYS - 1 && lossBy(h, way, left) != least[h * ROOM + left]) {
                    way++;
                }
                choice[h] = way;
                left = Math.max(0, left - wayLines[h * WAYS + way]);
            }
        }
    }

    /** The pairs, and which of them stand. */
    private static final class Story {
        /** What is paid counts ahead of how many are left out: 20 of these stay below one paid. */
        static final int PAID = 32, LEFT_OUT = PAID + 1, SIDE = MOST_PAIRS + 1;

        int size = 0;
        private final int[] told = new int[MOST_PAIRS];
        private final int[] shift = new int[MOST_PAIRS];
        private final int[] least = new int[SIDE * SIDE];

        int lastTold() {
            return size == 0 ? 0 : told[size - 1];
        }

        int put(int u, int v) {
            if (size < MOST_PAIRS) {
                told[size] = u;
                shift[size] = v - u;
                size++;
            }
            return size;
        }

        /** least[i * SIDE + last + 1]: of pairs from i on, if last is the latest that stands (NONE: none). */
        void weigh(int c) {
            for (int last = NONE; last < size; last++) {
                least[size * SIDE + last + 1] = 0;
            }
            for (int i = size - 1; i >= 0; i--) {
                for (int last = NONE; last < i; last++) {
                    least[i * SIDE + last + 1] = Math.min(ifStands(i, last, c), ifLeftOut(i, last));
                }
            }
        }

        int ifStands(int i, int last, int c) {
            boolean shifts = last != NONE && shift[last] != shift[i];
            return least[(i + 1) * SIDE + i + 1] + (shifts ? c * PAID : 0);
        }

        int ifLeftOut(int i, int last) {
            return least[(i + 1) * SIDE + last + 1] + LEFT_OUT;
        }

        int leastCost() {
            return least[0] / PAID;
        }

        boolean standsAt(int wanted, int c) {
            int last = NONE;
            for (int i = 0; i <= wanted && i < size; i++) {
                if (ifStands(i, last, c) <= ifLeftOut(i, last)) {
                    last = i;
                }
            }
            return last == wanted;
        }
    }
}
