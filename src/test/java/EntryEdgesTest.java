/** Runs and promises 6 to 12: each sentence that names a boundary, in the document's order. */
public final class EntryEdgesTest {
    private static final Check check = new Check();
    private static final int NONE = BackPages.NONE, UNKNOWN = BackPages.UNKNOWN, OUTSIDE = BackPages.OUTSIDE;
    private static final int FULL = BackPages.FULL, LEAST = Integer.MIN_VALUE, MOST = Integer.MAX_VALUE;

    public static void main(String[] args) {
        numbers();
        marksOfEntries();
        entries();
        runsTogether();
        runsMain();
        filled();
        headAsked();
        headsUnknown();
        names();
        namesUnknown();
        markAsked();
        marksUnknown();
        addPages();
        addTo();
        addFull();
        dropOne();
        dropUnknown();
        askedBounds();
        runAsked();
        runsOfNone();
        runRefused();
        mostRuns();
        check.end();
    }

    /** 16 heads a .. p; p is the only one that is filled, has six subs, is seen and seen also. */
    private static BackPages sixteen() {
        StringBuilder text = new StringBuilder();
        for (int h = 0; h < 15; h++) {
            text.append("asked ").append((char) ('a' + h)).append(" 1;");
        }
        return Check.of(text + "mark p/u 1;mark p/v 2;mark p/w 3;mark p/x 4;mark p/y 5;mark p/z 6;see a p;also a p;also p a;");
    }

    private static BackPages of(int[]... marks) {
        BackPages x = Check.of("asked a 0;");
        for (int[] mark : marks) {
            x.add(0, NONE, mark[0], mark[1], false);
        }
        return x;
    }

    private static int[] m(int p, int q) {
        return new int[] {p, q};
    }

    // ---- terms

    private static void numbers() {
        check.sentence("What has a number has it from 0 on, as it comes");
        BackPages x = Check.of("see c b;mark a/z 5;mark b/y 1;mark a/y 3;");
        check.due("heads", Check.name(x, 0, NONE) + Check.name(x, 1, NONE) + Check.name(x, 2, NONE), "cba");
        check.due("subs", Check.name(x, 2, 0) + Check.name(x, 2, 1), "zy");
        check.due("marks", Check.marks(x), "2/0:5-5 1/0:1-1 2/1:3-3");
        check.due("added", x.add(0, NONE, 1, 1, false), 3);
    }

    private static void marksOfEntries() {
        check.sentence("MARKS (60 at most) are of a HEAD (OWN ones) or of a SUB of it, from PAGE P to PAGE Q, MAIN or not");
        BackPages x = Check.of("mark a 5;mark a 5-9 main;mark b/s 6;mark b/s 1-99 main;mark a/s 7;");
        check.due("told", Check.marks(x), "0:5-5 0:*5-9 1/0:6-6 1/0:*1-99 0/0:7-7");
        check.due("own", x.add(1, NONE, 8, 8, false), 5);
        check.due("own, main", x.add(1, NONE, 8, 9, true), 6);
        check.due("of a sub", x.add(0, 0, 3, 4, false), 7);
        check.due("of a sub, main", x.add(0, 0, 3, 3, true), 8);
        check.due("added", Check.marks(x), "0:5-5 0:*5-9 1/0:6-6 1/0:*1-99 0/0:7-7 1:8-8 1:*8-9 0/0:3-4 0/0:*3-3");
        BackPages full = Check.of("mark a/s1;".repeat(59) + "mark b2;");
        check.due("the sixtieth", full.mark(59, 0), 1);
        check.due("it is own", full.mark(59, 1), NONE);
        check.due("the one ahead is of a sub", full.mark(58, 1), 0);
    }

    private static void entries() {
        check.sentence("An ENTRY is a HEAD (by its OWN MARKS) or a SUB");
        BackPages x = Check.of("mark a 5;mark a/s 7;mark a/t 9;mark b/s 11;mark s 13;");
        check.due("a by its own", Check.runs(x, 0, NONE), "5-5");
        check.due("a's subs", Check.runs(x, 0, 0) + " " + Check.runs(x, 0, 1), "7-7 9-9");
        check.due("b has no own", Check.runs(x, 1, NONE), "");
        check.due("b's sub of the same word", Check.runs(x, 1, 0), "11-11");
        check.due("the head of that word", Check.runs(x, 2, NONE), "13-13");
        check.due("own runs are counted alone", x.head(0, 1) + " " + x.head(1, 1), "1 0");
    }

    private static void runsTogether() {
        check.sentence("Its RUNS: the PAGES of its MARKS, those side by side together, from the least on");
        check.due("side by side", Check.runs(of(m(5, 5), m(6, 6)), 0, NONE), "5-6");
        check.due("side by side, turned", Check.runs(of(m(6, 6), m(5, 5)), 0, NONE), "5-6");
        check.due("one page between", Check.runs(of(m(5, 5), m(7, 7)), 0, NONE), "5-5 7-7");
        check.due("one page between, turned", Check.runs(of(m(7, 7), m(5, 5)), 0, NONE), "5-5 7-7");
        check.due("the page between", Check.runs(of(m(5, 5), m(7, 7), m(6, 6)), 0, NONE), "5-7");
        check.due("twice the same", Check.runs(of(m(5, 9), m(5, 9)), 0, NONE), "5-9");
        check.due("one within", Check.runs(of(m(5, 9), m(6, 7)), 0, NONE), "5-9");
        check.due("one around", Check.runs(of(m(6, 7), m(9, 9), m(5, 9)), 0, NONE), "5-9");
        check.due("over the end", Check.runs(of(m(5, 9), m(9, 12)), 0, NONE), "5-12");
        check.due("behind the end", Check.runs(of(m(5, 9), m(10, 12)), 0, NONE), "5-12");
        check.due("one behind that", Check.runs(of(m(5, 9), m(11, 12)), 0, NONE), "5-9 11-12");
        check.due("ahead", Check.runs(of(m(5, 9), m(1, 4)), 0, NONE), "1-9");
        check.due("one ahead of that", Check.runs(of(m(5, 9), m(1, 3)), 0, NONE), "1-3 5-9");
        check.due("over three", Check.runs(of(m(1, 1), m(3, 3), m(5, 5), m(9, 9), m(2, 7)), 0, NONE), "1-7 9-9");
        check.due("to both ends", Check.runs(of(m(99, 99), m(1, 1)), 0, NONE), "1-1 99-99");
        check.due("all", Check.runs(of(m(50, 99), m(1, 49)), 0, NONE), "1-99");
        check.due("the least first", Check.runs(of(m(9, 9), m(7, 7), m(3, 4), m(1, 1)), 0, NONE), "1-1 3-4 7-7 9-9");
        BackPages x = Check.of("mark a 5;mark a/s 6;mark a/t 7;mark b 6;");
        check.due("of one entry alone", Check.runs(x, 0, NONE) + Check.runs(x, 0, 0) + Check.runs(x, 0, 1), "5-56-67-7");
    }

    private static void runsMain() {
        check.sentence("A RUN is MAIN, if some MAIN MARK of the ENTRY has a PAGE in it");
        check.due("its first page", Check.runs(Check.of("mark a 5-9;mark a 5 main;"), 0, NONE), "*5-9");
        check.due("its last page", Check.runs(Check.of("mark a 9 main;mark a 5-9;"), 0, NONE), "*5-9");
        check.due("side by side", Check.runs(Check.of("mark a 5-9;mark a 10 main;"), 0, NONE), "*5-10");
        check.due("side by side, turned", Check.runs(Check.of("mark a 10 main;mark a 5-9;"), 0, NONE), "*5-10");
        check.due("another run's", Check.runs(Check.of("mark a 5-9;mark a 11 main;mark a 13;"), 0, NONE), "5-9 *11-11 13-13");
        BackPages x = Check.of("mark a 5;mark a/s 5 main;mark b 5 main;mark b/s 5;");
        check.due("a sub's is not the head's", Check.runs(x, 0, NONE) + Check.runs(x, 0, 0), "5-5*5-5");
        check.due("nor the head's a sub's", Check.runs(x, 1, NONE) + Check.runs(x, 1, 0), "*5-55-5");
        BackPages y = Check.of("mark a 5 main;mark a 5;");
        y.drop(0);
        check.due("that mark is gone", Check.runs(y, 0, NONE), "5-5");
    }

    private static void filled() {
        check.sentence("A HEAD is FILLED, if it has MARKS, OWN ones or of its SUBS");
        BackPages x = Check.of("mark a 5;mark b/s 5;see c a;also d a;asked e 1;");
        int[] due = {1, 1, 0, 0, 0};
        for (int h = 0; h < 5; h++) {
            check.due("head " + h, x.head(h, 5), due[h]);
        }
        x.drop(1);
        check.due("a sub without marks", x.head(1, 5), 0);
        check.due("is there still", x.head(1, 0), 1);
        x.drop(0);
        check.due("none left", x.head(0, 5), 0);
        x.add(4, NONE, 1, 1, false);
        check.due("one added", x.head(4, 5), 1);
    }

    // ---- promise 6

    private static void headAsked() {
        check.sentence("Of a HEAD: what = 0 how many SUBS, 1 OWN RUNS, 2 SEE (NONE), 3 ALSO, 4 ASKED, 5 whether it is FILLED (1, 0), "
                + "6 LINES of it PRINTED");
        BackPages x = sixteen();
        int[] first = {0, 0, 15, 1 << 15, 1, 0, 2};
        int[] second = {0, 0, NONE, 0, 1, 0, 0};
        int[] last = {6, 0, NONE, 1, 0, 1, 8};
        for (int what = 0; what <= 6; what++) {
            check.due("head 0 " + what, x.head(0, what), first[what]);
            check.due("head 1 " + what, x.head(1, what), second[what]);
            check.due("head 15 " + what, x.head(15, what), last[what]);
        }
        x.asked(15, 99);
        check.due("asked 99", x.head(15, 4), 99);
        x.add(15, NONE, 7, 7, false);
        check.due("one own run", x.head(15, 1), 1);
    }

    private static void headsUnknown() {
        check.sentence("6 LINES of it PRINTED. UNKNOWN, OUTSIDE.");
        BackPages x = sixteen();
        for (int h : new int[] {-1, -2, 16, 17, LEAST, MOST}) {
            check.due("head " + h, x.head(h, 0), UNKNOWN);
            check.due("head " + h + " and what 7", x.head(h, 7), UNKNOWN);
            check.due("head " + h + " and what -1", x.head(h, -1), UNKNOWN);
        }
        for (int what : new int[] {-1, 7, 8, LEAST, MOST}) {
            check.due("what " + what, x.head(0, what), OUTSIDE);
            check.due("what " + what + " of the last", x.head(15, what), OUTSIDE);
        }
        check.due("head 0 of none", new BackPages().head(0, 0), UNKNOWN);
    }

    // ---- promise 7

    private static void names() {
        check.sentence("Byte i of the WORD of a HEAD (sub = NONE), of a SUB of it; i = NONE: how many it has; NONE: not so many");
        BackPages x = Check.of("mark z/abcdefghijkl 1;mark abcdefg_ijkz/a 2;");
        check.due("one byte", x.name(0, NONE, NONE), 1);
        check.due("the byte", x.name(0, NONE, 0), 'z');
        check.due("no second", x.name(0, NONE, 1), NONE);
        check.due("twelve bytes", x.name(1, NONE, NONE), 12);
        check.due("the first", x.name(1, NONE, 0), 'a');
        check.due("a line", x.name(1, NONE, 7), '_');
        check.due("the last", x.name(1, NONE, 11), 'z');
        check.due("no thirteenth", x.name(1, NONE, 12), NONE);
        check.due("no fourteenth", x.name(1, NONE, 13), NONE);
        check.due("a sub's twelve", x.name(0, 0, NONE), 12);
        check.due("its last", x.name(0, 0, 11), 'l');
        check.due("behind it", x.name(0, 0, 12), NONE);
        check.due("a sub's one", x.name(1, 0, NONE), 1);
        check.due("behind that", x.name(1, 0, 1), NONE);
        BackPages last = Check.of("mark zyxwvutsrqpo/nopqrstuvwxy 1;");
        check.due("twelve of the last letters", last.name(0, NONE, NONE), 12);
        check.due("all of them", Check.name(last, 0, NONE), "zyxwvutsrqpo");
        check.due("a sub's twelve of them", last.name(0, 0, NONE), 12);
        check.due("all of the sub's", Check.name(last, 0, 0), "nopqrstuvwxy");
        check.due("behind them", last.name(0, NONE, 12) + last.name(0, 0, 12), 2 * NONE);
        for (int i : new int[] {-2, -3, LEAST, MOST, 64, 60, 24}) {
            check.due("byte " + i, x.name(1, NONE, i), NONE);
            check.due("byte " + i + " of a sub", x.name(0, 0, i), NONE);
        }
    }

    private static void namesUnknown() {
        check.sentence("NONE: not so many. UNKNOWN.", "name");
        BackPages x = sixteen();
        check.due("the sixth sub", x.name(15, 5, 0), 'z');
        check.due("sub 6", x.name(15, 6, 0), UNKNOWN);
        check.due("sub 6, how many", x.name(15, 6, NONE), UNKNOWN);
        check.due("sub 0 of one without", x.name(14, 0, 0), UNKNOWN);
        for (int sub : new int[] {-2, LEAST, MOST}) {
            check.due("sub " + sub, x.name(15, sub, 0), UNKNOWN);
        }
        for (int h : new int[] {-1, 16, LEAST, MOST}) {
            check.due("head " + h, x.name(h, NONE, 0), UNKNOWN);
            check.due("head " + h + ", sub 0", x.name(h, 0, NONE), UNKNOWN);
        }
        check.due("of none", new BackPages().name(0, NONE, NONE), UNKNOWN);
    }

    // ---- promise 8

    private static void markAsked() {
        check.sentence("Of a MARK: what = 0 HEAD, 1 SUB (NONE), 2 P, 3 Q (P, if it is the one PAGE), 4 MAIN (1, 0)");
        BackPages x = Check.of("asked z 1;mark a 99;mark a/s 1-99 main;mark a/t 5-6;");
        check.due("marks", Check.marks(x), "1:99-99 1/0:*1-99 1/1:5-6");
        int[][] due = {{1, NONE, 99, 99, 0}, {1, 0, 1, 99, 1}, {1, 1, 5, 6, 0}};
        for (int k = 0; k < 3; k++) {
            for (int what = 0; what <= 4; what++) {
                check.due("mark " + k + " " + what, x.mark(k, what), due[k][what]);
            }
        }
    }

    private static void marksUnknown() {
        check.sentence("4 MAIN (1, 0). UNKNOWN, OUTSIDE.");
        BackPages x = Check.of("mark a1;".repeat(60));
        check.due("the last", x.mark(59, 0), 0);
        for (int k : new int[] {-1, -2, 60, 61, LEAST, MOST}) {
            check.due("mark " + k, x.mark(k, 0), UNKNOWN);
            check.due("mark " + k + " and what 5", x.mark(k, 5), UNKNOWN);
        }
        for (int what : new int[] {-1, 5, 6, LEAST, MOST}) {
            check.due("what " + what, x.mark(59, what), OUTSIDE);
        }
        x.drop(0);
        check.due("one less", x.mark(59, 0), UNKNOWN);
        check.due("of none", new BackPages().mark(0, 0), UNKNOWN);
    }

    // ---- promise 9

    private static void addPages() {
        check.sentence("its number. UNKNOWN, OUTSIDE (PAGES; q below p)");
        BackPages x = Check.of("asked a 1;");
        check.due("1 to 1", x.add(0, NONE, 1, 1, false), 0);
        check.due("99 to 99", x.add(0, NONE, 99, 99, true), 1);
        check.due("1 to 99", x.add(0, NONE, 1, 99, false), 2);
        check.due("5 to 5", x.add(0, NONE, 5, 5, false), 3);
        int[][] wrong = {{0, 0}, {0, 1}, {0, 99}, {1, 0}, {99, 100}, {100, 100}, {1, 100}, {100, 1}, {5, 4}, {99, 1}, {2, 1}, {-1, 5},
            {5, -1}, {LEAST, 5}, {5, MOST}, {LEAST, MOST}, {MOST, LEAST}};
        for (int[] pages : wrong) {
            check.due(pages[0] + " to " + pages[1], x.add(0, NONE, pages[0], pages[1], true), OUTSIDE);
        }
        check.due("as they were", Check.marks(x), "0:1-1 0:*99-99 0:1-99 0:5-5");
    }

    private static void addTo() {
        check.sentence("A MARK of a HEAD, of a SUB of it (NONE: OWN): its number. UNKNOWN");
        BackPages x = sixteen();
        check.due("own of the last head", x.add(15, NONE, 9, 9, false), 6);
        check.due("of its last sub", x.add(15, 5, 9, 9, true), 7);
        check.due("of the first head", x.add(0, NONE, 9, 9, false), 8);
        check.due("the last ones", x.mark(6, 1) + " " + x.mark(7, 1) + " " + x.mark(8, 0), "-1 5 0");
        for (int sub : new int[] {-2, 6, 7, LEAST, MOST}) {
            check.due("sub " + sub, x.add(15, sub, 9, 9, false), UNKNOWN);
            check.due("sub " + sub + ", page 0", x.add(15, sub, 0, 9, false), UNKNOWN);
        }
        check.due("sub 0 of one without", x.add(0, 0, 9, 9, false), UNKNOWN);
        for (int h : new int[] {-1, 16, LEAST, MOST}) {
            check.due("head " + h, x.add(h, NONE, 9, 9, false), UNKNOWN);
            check.due("head " + h + ", page 100", x.add(h, 0, 9, 100, false), UNKNOWN);
        }
        check.due("none came", x.count(1), 9);
        check.due("of none", new BackPages().add(0, NONE, 1, 1, false), UNKNOWN);
    }

    private static void addFull() {
        check.sentence("OUTSIDE (PAGES; q below p), FULL.");
        BackPages x = Check.of("mark a1;".repeat(59) + "mark b/s 2;");
        check.due("the 61st", x.add(0, NONE, 5, 5, false), FULL);
        check.due("of a sub", x.add(1, 0, 5, 5, true), FULL);
        check.due("page 0", x.add(0, NONE, 0, 5, false), OUTSIDE);
        check.due("q below p", x.add(0, NONE, 5, 4, false), OUTSIDE);
        check.due("head 2", x.add(2, NONE, 5, 5, false), UNKNOWN);
        check.due("none came", x.count(1), 60);
        check.due("runs as they were", Check.runs(x, 0, NONE), "1-1");
        check.due("one gone", x.drop(59), 59);
        check.due("the 60th", x.add(1, 0, 9, 9, true), 59);
        check.due("the 61st again", x.add(1, 0, 9, 9, true), FULL);
    }

    // ---- promise 10

    private static void dropOne() {
        check.sentence("A MARK is gone (later ones have one number less): how many are left");
        BackPages x = Check.of("mark a 1;mark b/s 2 main;mark c 3-4;");
        check.due("the one between", x.drop(1), 2);
        check.due("later ones", Check.marks(x), "0:1-1 2:3-4");
        check.due("the last", x.drop(1), 1);
        check.due("the first stays", Check.marks(x), "0:1-1");
        check.due("the first", x.drop(0), 0);
        check.due("none", Check.marks(x), "");
        check.due("heads stay", x.count(0), 3);
        BackPages full = Check.of("mark a1;".repeat(59) + "mark a7;");
        check.due("the first of sixty", full.drop(0), 59);
        check.due("the last has one number less", full.mark(58, 2), 7);
        check.due("the one ahead of it", full.mark(57, 2), 1);
    }

    private static void dropUnknown() {
        check.sentence("how many are left. UNKNOWN.");
        BackPages x = Check.of("mark a1;".repeat(60));
        for (int k : new int[] {-1, 60, LEAST, MOST}) {
            check.due("mark " + k, x.drop(k), UNKNOWN);
        }
        check.due("all stay", x.count(1), 60);
        check.due("mark 59", x.drop(59), 59);
        check.due("mark 59 again", x.drop(59), UNKNOWN);
        check.due("of none", new BackPages().drop(0), UNKNOWN);
    }

    // ---- promise 11

    private static void askedBounds() {
        check.sentence("A HEAD is ASKED for v times (0 .. 99): how often it was. UNKNOWN, OUTSIDE");
        BackPages x = sixteen();
        check.due("untold", x.asked(15, 99), 0);
        check.due("99", x.asked(15, 0), 99);
        check.due("0", x.asked(15, 50), 0);
        for (int v : new int[] {-1, 100, LEAST, MOST}) {
            check.due("v " + v, x.asked(15, v), OUTSIDE);
        }
        for (int h : new int[] {-1, 16, LEAST, MOST}) {
            check.due("head " + h, x.asked(h, 5), UNKNOWN);
            check.due("head " + h + " and v 100", x.asked(h, 100), UNKNOWN);
            check.due("head " + h + " and v -1", x.asked(h, -1), UNKNOWN);
        }
        check.due("as it was", x.head(15, 4), 50);
        check.due("another's", x.head(14, 4), 1);
        check.due("of none", new BackPages().asked(0, 0), UNKNOWN);
    }

    // ---- promise 12

    private static void runAsked() {
        check.sentence("Run i of an ENTRY: what = 0 the first PAGE, 1 the last, 2 whether it is MAIN (1, 0); i = NONE: how many; NONE: not so many");
        BackPages x = Check.of("mark a 1-9;mark a 99 main;mark a/s 5;");
        int[][] due = {{1, 9, 0}, {99, 99, 1}};
        for (int what = 0; what <= 2; what++) {
            check.due("run 0 " + what, x.run(0, NONE, 0, what), due[0][what]);
            check.due("run 1 " + what, x.run(0, NONE, 1, what), due[1][what]);
            check.due("how many, " + what, x.run(0, NONE, NONE, what), 2);
            for (int i : new int[] {2, 3, -2, LEAST, MOST}) {
                check.due("run " + i + " " + what, x.run(0, NONE, i, what), NONE);
            }
            check.due("the sub's one", x.run(0, 0, NONE, what), 1);
            check.due("the sub's second", x.run(0, 0, 1, what), NONE);
        }
    }

    private static void runsOfNone() {
        check.sentence("i = NONE: how many; NONE: not so many", "an entry without marks");
        BackPages x = Check.of("see a b;mark b/s 5;");
        check.due("of a head that has nothing", x.run(0, NONE, NONE, 0), 0);
        check.due("its run 0", x.run(0, NONE, 0, 0), NONE);
        check.due("own of one with a sub", x.run(1, NONE, NONE, 0), 0);
        x.drop(0);
        check.due("of a sub without marks", x.run(1, 0, NONE, 0), 0);
        check.due("its run 0", x.run(1, 0, 0, 2), NONE);
    }

    private static void runRefused() {
        check.sentence("UNKNOWN, OUTSIDE (what, with i = NONE, too)");
        BackPages x = sixteen();
        for (int what : new int[] {-1, 3, 4, LEAST, MOST}) {
            check.due("what " + what, x.run(15, 0, 0, what), OUTSIDE);
            check.due("what " + what + ", how many", x.run(15, 0, NONE, what), OUTSIDE);
            check.due("what " + what + ", not so many", x.run(15, 0, 9, what), OUTSIDE);
            check.due("what " + what + ", head 16", x.run(16, NONE, 0, what), UNKNOWN);
            check.due("what " + what + ", sub 6", x.run(15, 6, NONE, what), UNKNOWN);
        }
        check.due("the sixth sub", x.run(15, 5, 0, 0), 6);
        for (int sub : new int[] {-2, 6, LEAST, MOST}) {
            check.due("sub " + sub, x.run(15, sub, 0, 0), UNKNOWN);
        }
        for (int h : new int[] {-1, 16, LEAST, MOST}) {
            check.due("head " + h, x.run(h, NONE, NONE, 0), UNKNOWN);
        }
        check.due("of none", new BackPages().run(0, NONE, NONE, 0), UNKNOWN);
    }

    private static void mostRuns() {
        check.sentence("Run i of an ENTRY", "as many as 99 pages can have");
        BackPages x = Check.of("asked a 1;");
        for (int p = 99; p >= 1; p -= 2) {
            x.add(0, NONE, p, p, p == 99);
        }
        check.due("fifty", x.run(0, NONE, NONE, 0), 50);
        check.due("fifty by head", x.head(0, 1), 50);
        for (int i = 0; i < 50; i++) {
            check.due("run " + i, x.run(0, NONE, i, 0), 2 * i + 1);
        }
        check.due("the last is main", x.run(0, NONE, 49, 2), 1);
        check.due("the one ahead is not", x.run(0, NONE, 48, 2), 0);
        check.due("run 50", x.run(0, NONE, 50, 0), NONE);
        x.add(0, NONE, 2, 98, false);
        check.due("all one", Check.runs(x, 0, NONE), "*1-99");
    }
}
