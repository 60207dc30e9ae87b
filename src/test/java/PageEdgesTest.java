/** Pages put in and taken out, pairs and promises 25 to 30: each sentence that names a boundary, in the document's order. */
public final class PageEdgesTest {
    private static final Check check = new Check();
    private static final int NONE = BackPages.NONE, UNKNOWN = BackPages.UNKNOWN, OUTSIDE = BackPages.OUTSIDE;
    private static final int NOT = BackPages.NOT, FULL = BackPages.FULL, LEAST = Integer.MIN_VALUE, MOST = Integer.MAX_VALUE;

    public static void main(String[] args) {
        putIn();
        putInBounds();
        above99();
        putInMany();
        takeOut();
        takeOutNumbers();
        takeOutBounds();
        stale();
        staleWords();
        staleBounds();
        pairsLater();
        pairsBounds();
        pairsFull();
        forgetting();
        standsOrLeftOut();
        standsAhead();
        fewestLeftOut();
        firstThatStands();
        shifts();
        twentyPairs();
        storyBounds();
        check.end();
    }

    // ---- put in

    private static void putIn() {
        check.sentence("PAGES are PUT IN: n (1 .. 9) behind PAGE p (0 .. 99): each P, each Q that is above p is n more");
        String text = "mark a 1;mark a 9;mark a 10;mark a 11;mark a 9-10;mark a 10-11;mark a 9-11;mark a 11-12;mark a 90;";
        BackPages x = Check.of(text);
        check.due("behind 10", x.putIn(10, 3), 5);
        check.due("marks", Check.marks(x), "0:1-1 0:9-9 0:10-10 0:14-14 0:9-10 0:10-14 0:9-14 0:14-15 0:93-93");
        BackPages first = Check.of(text);
        check.due("ahead of all", first.putIn(0, 9), 9);
        check.due("all are 9 more", Check.marks(first), "0:10-10 0:18-18 0:19-19 0:20-20 0:18-19 0:19-20 0:18-20 0:20-21 0:99-99");
        BackPages last = Check.of(text);
        check.due("behind the last", last.putIn(90, 9), 0);
        check.due("one ahead of it", last.putIn(89, 1), 1);
        check.due("it alone", last.mark(8, 2), 91);
        BackPages one = Check.of("mark a 1;");
        check.due("behind 1", one.putIn(1, 1), 0);
        check.due("behind 0", one.putIn(0, 1), 1);
        check.due("2", Check.marks(one), "0:2-2");
        BackPages main = Check.of("mark b/s 5 main;");
        main.putIn(4, 2);
        check.due("all else of it stays", Check.marks(main), "0/0:*7-7");
    }

    private static void putInBounds() {
        check.sentence("PAGES are PUT IN: how many MARKS changed. OUTSIDE");
        BackPages x = Check.of("mark a 5-99;");
        for (int p : new int[] {-1, 100, LEAST, MOST}) {
            check.due("p " + p, x.putIn(p, 1), OUTSIDE);
            check.due("p " + p + ", n 10", x.putIn(p, 10), OUTSIDE);
        }
        for (int n : new int[] {0, 10, -1, LEAST, MOST}) {
            check.due("n " + n, x.putIn(99, n), OUTSIDE);
            check.due("n " + n + " where it is NOT", x.putIn(0, n), OUTSIDE);
        }
        check.due("p 99, n 9", x.putIn(99, 9), 0);
        check.due("p 99, n 1", x.putIn(99, 1), 0);
        check.due("as it was", Check.marks(x), "0:5-99");
        check.due("of none", new BackPages().putIn(0, 9), 0);
        check.due("of none, n 10", new BackPages().putIn(0, 10), OUTSIDE);
    }

    private static void above99() {
        check.sentence("NOT: some PAGE would be above 99");
        BackPages x = Check.of("mark a 5;mark a 50-90;mark b/s 6;");
        check.due("just 99", x.putIn(60, 9), 1);
        check.due("marks", Check.marks(x), "0:5-5 0:50-99 1/0:6-6");
        check.due("100", x.putIn(98, 1), NOT);
        check.due("100 of the second", x.putIn(0, 1), NOT);
        check.due("108", x.putIn(5, 9), NOT);
        check.due("none changed", Check.marks(x), "0:5-5 0:50-99 1/0:6-6");
        check.due("none is above 99", x.putIn(99, 9), 0);
        x.drop(1);
        check.due("without that one", x.putIn(5, 9), 1);
        BackPages y = Check.of("mark a 91;");
        check.due("91 and 9", y.putIn(0, 9), NOT);
        check.due("91 and 8", y.putIn(90, 8), 1);
        check.due("99", Check.marks(y), "0:99-99");
    }

    private static void putInMany() {
        check.sentence("how many MARKS changed", "all 60");
        BackPages x = Check.of("mark a1;".repeat(59) + "mark b2;");
        check.due("the last alone", x.putIn(1, 1), 1);
        check.due("all", x.putIn(0, 9), 60);
        check.due("the last", x.mark(59, 2), 12);
        check.due("the first", x.mark(0, 3), 10);
    }

    // ---- taken out

    private static void takeOut() {
        check.sentence("PAGES above q are q less p and 1 less", "and what is between");
        int[][] marks = {{9, 9, 9, 9}, {10, 10, 0, 0}, {12, 12, 0, 0}, {13, 13, 10, 10}, {9, 10, 9, 9}, {9, 12, 9, 9}, {9, 13, 9, 10},
            {10, 12, 0, 0}, {10, 13, 10, 10}, {12, 13, 10, 10}, {11, 11, 0, 0}, {1, 99, 1, 96}, {99, 99, 96, 96}, {1, 9, 1, 9}, {13, 99, 10, 96},
            {10, 11, 0, 0}, {11, 12, 0, 0}, {8, 11, 8, 9}, {11, 15, 10, 12}};
        for (int[] mark : marks) {
            BackPages x = Check.of("asked a 1;");
            x.add(0, NONE, mark[0], mark[1], false);
            String name = mark[0] + "-" + mark[1];
            check.due("10 to 12 of " + name, x.takeOut(10, 12), mark[2] == 0 ? 1 : 0);
            check.due(name + " is", Check.marks(x), mark[2] == 0 ? "" : "0:" + mark[2] + "-" + mark[3]);
        }
        BackPages one = Check.of("mark a 4;mark a 5;mark a 6;mark a 4-6;");
        check.due("one page", one.takeOut(5, 5), 1);
        check.due("marks", Check.marks(one), "0:4-4 0:5-5 0:4-5");
        BackPages main = Check.of("mark z 1;mark b/s 5-9 main;");
        check.due("the first page", main.takeOut(1, 1), 1);
        check.due("all else of it stays", Check.marks(main), "1/0:*4-8");
        check.due("heads stay", main.count(0), 2);
        check.due("a sub stays", main.head(1, 0), 1);
    }

    private static void takeOutNumbers() {
        check.sentence("TAKEN OUT: PAGES p to q: what MARKS have of these is gone (a MARK with none left, too; later ones have one number less)");
        BackPages x = Check.of("mark a 5;mark b 1;mark c 5;mark c 6;mark d/s 9 main;mark e 5;");
        check.due("three gone", x.takeOut(5, 5), 3);
        check.due("marks", Check.marks(x), "1:1-1 2:5-5 3/0:*8-8");
        BackPages full = Check.of("mark a1;".repeat(60));
        check.due("none of sixty", full.takeOut(2, 99), 0);
        check.due("all sixty", full.takeOut(1, 1), 60);
        check.due("none left", full.count(1), 0);
        check.due("mark 0", full.mark(0, 0), UNKNOWN);
        check.due("room again", full.add(0, NONE, 1, 1, false), 0);
    }

    private static void takeOutBounds() {
        check.sentence("PAGES are TAKEN OUT: how many MARKS are gone. OUTSIDE (PAGES; q below p)");
        BackPages x = Check.of("mark a 1;mark a 99;");
        int[][] wrong = {{0, 0}, {0, 1}, {0, 99}, {1, 100}, {99, 100}, {100, 100}, {2, 1}, {99, 1}, {99, 98}, {1, 0}, {-1, 5}, {5, -1}, {LEAST, MOST},
            {1, MOST}, {MOST, MOST}, {LEAST, LEAST}, {LEAST, 5}};
        for (int[] pages : wrong) {
            check.due(pages[0] + " to " + pages[1], x.takeOut(pages[0], pages[1]), OUTSIDE);
        }
        check.due("as they were", Check.marks(x), "0:1-1 0:99-99");
        check.due("2 to 98", x.takeOut(2, 98), 0);
        check.due("side by side", Check.marks(x), "0:1-1 0:2-2");
        check.due("99 to 99", x.takeOut(99, 99), 0);
        check.due("1 to 1", x.takeOut(1, 1), 1);
        check.due("1 to 99", x.takeOut(1, 99), 1);
        check.due("of none", new BackPages().takeOut(1, 99), 0);
        check.due("of none, 0", new BackPages().takeOut(0, 99), OUTSIDE);
    }

    // ---- stale

    private static void stale() {
        check.sentence("STALE by an IMAGE: how many RUNS of ENTRIES of it (PAGES from, to) are no RUNS of the ENTRY of like WORDS now");
        BackPages x = Check.of("mark a 5-7;mark a 20 main;mark a/s 9;mark b 1;");
        x.keep(0);
        check.due("nothing changed", x.stale(0), 0);
        x.add(0, NONE, 8, 8, false);
        check.due("its last page", x.stale(0), 1);
        x.goBack(0);
        x.add(0, NONE, 4, 4, false);
        check.due("its first page", x.stale(0), 1);
        x.goBack(0);
        x.add(0, NONE, 6, 6, true);
        x.drop(1);
        x.add(0, NONE, 20, 20, false);
        check.due("main or not", x.stale(0), 0);
        x.add(0, NONE, 30, 30, false);
        check.due("one run more", x.stale(0), 0);
        x.goBack(0);
        x.drop(0);
        x.add(0, NONE, 5, 6, false);
        x.add(0, NONE, 7, 7, false);
        check.due("the same by other marks", x.stale(0), 0);
        x.goBack(0);
        for (int k = 3; k >= 0; k--) {
            x.drop(k);
            check.due("without mark " + k, x.stale(0), 4 - k);
        }
        x.goBack(0);
        x.join(0, 1);
        check.due("b has none, a its page", x.stale(0), 1);
        BackPages most = Check.of("asked a 1;");
        for (int p = 1; p <= 99; p += 2) {
            most.add(0, NONE, p, p, false);
        }
        most.keep(1);
        check.due("fifty runs", most.stale(1), 0);
        most.putIn(98, 1);
        check.due("not put in, 100", most.stale(1), 0);
        most.takeOut(1, 1);
        check.due("all wrong", most.stale(1), 50);
    }

    private static void staleWords() {
        check.sentence("(HEAD and SUB; also if there is none such)");
        BackPages x = Check.of("mark a 5;mark a/s 6;mark b/s 7;mark s 8;");
        x.keep(0);
        String[] texts = {"mark s 8;mark b/t 1;mark b/s 7;mark a/s 6;mark a 5;", "mark a 5;mark a/s 6;mark b/s 7;",
            "mark a 5;mark a/t 6;mark b/s 7;mark s 8;", "mark a 6;mark a/s 5;mark b/s 8;mark s 7;",
            "mark a/s 5;mark a 8;mark b 7;mark b/s 6;", "mark q 1;", "mark a 5;mark s 6;mark b/a 7;mark b 8;", ""};
        int[] due = {0, 1, 1, 4, 4, 4, 3, 4};
        for (int i = 0; i < texts.length; i++) {
            Check.feed(x, texts[i]);
            x.read();
            check.due("now '" + texts[i] + "'", x.stale(0), due[i]);
        }
        BackPages own = Check.of("mark a 9;mark b/s 5;mark c/s 7;mark c/t 8;");
        own.keep(0);
        // the sub is gone, and its pages are own ones of its head, of the first head, of another sub
        int[] left = {0, 1, 1, 1, 1, 2, 2};
        String[] now = {"mark a 9;mark b/s 5;mark c/s 7;mark c/t 8;", "mark a 9;mark b 5;mark c/s 7;mark c/t 8;",
            "mark a 9;mark a 5;mark b 3;mark c/s 7;mark c/t 8;", "mark a 9;mark b/s 5;mark c/s 7;mark c 8;", "mark a 9;mark b/s 5;mark c/t 8;mark c 7;",
            "mark a 9;mark b/s 5;mark c/u 7;mark c/v 8;", "mark a 9;mark b/s 5;mark a/s 7;mark a/t 8;mark c 5;"};
        for (int i = 0; i < now.length; i++) {
            Check.feed(own, now[i]);
            own.read();
            check.due("now '" + now[i] + "'", own.stale(0), left[i]);
        }
        StringBuilder text = new StringBuilder();
        for (int h = 0; h < 15; h++) {
            text.append("mark ").append((char) ('a' + h)).append(' ').append(h + 7).append(';');
        }
        BackPages full = Check.of(text + "mark p/a 1;mark p/b 2;mark p/c 3;mark p/d 4;mark p/e 5;mark p/f 6;");
        full.keep(0);
        check.due("16 heads", full.stale(0), 0);
        full.join(0, 15);
        check.due("p's are a's", full.stale(0), 6);
        full.read();
        check.due("no heads", full.stale(0), 21);
        BackPages none = new BackPages();
        none.keep(0);
        check.due("an image of none", none.stale(0), 0);
        Check.feed(none, "mark a 1;");
        none.read();
        check.due("an image of none, heads now", none.stale(0), 0);
    }

    private static void staleBounds() {
        check.sentence("STALE by an IMAGE. UNKNOWN, NOT: it was not kept");
        BackPages x = Check.of("mark a 1;");
        for (int i : new int[] {-1, 2, 3, LEAST, MOST}) {
            check.due("image " + i, x.stale(i), UNKNOWN);
        }
        check.due("image 0", x.stale(0), NOT);
        check.due("image 1", x.stale(1), NOT);
        x.keep(1);
        check.due("image 0 still", x.stale(0), NOT);
        check.due("image 1 now", x.stale(1), 0);
        x.drop(0);
        x.keep(0);
        check.due("image 0 now", x.stale(0), 0);
        check.due("the other", x.stale(1), 1);
        x.keep(1);
        check.due("kept over", x.stale(1), 0);
    }

    // ---- pairs

    private static void pairsLater() {
        check.sentence("A PAIR: how many there are. OUTSIDE, NOT: u is not later than that of the one before; FULL.");
        BackPages x = new BackPages();
        check.due("the first", x.saw(5, 9), 1);
        check.due("the same", x.saw(5, 10), NOT);
        check.due("one less", x.saw(4, 10), NOT);
        check.due("1", x.saw(1, 10), NOT);
        check.due("one more", x.saw(6, 1), 2);
        check.due("the one before counts", x.saw(5, 9), NOT);
        check.due("none came", x.count(3), 2);
        check.due("99", x.saw(99, 9), 3);
        check.due("99 again", x.saw(99, 9), NOT);
        check.due("100", x.saw(100, 9), OUTSIDE);
    }

    private static void pairsBounds() {
        check.sentence("PAGE u (later than that of the one before) is told, v (1 .. 199) was it");
        BackPages x = new BackPages();
        for (int u : new int[] {0, 100, -1, LEAST, MOST}) {
            check.due("u " + u, x.saw(u, 5), OUTSIDE);
        }
        for (int v : new int[] {0, 200, -1, LEAST, MOST}) {
            check.due("v " + v, x.saw(5, v), OUTSIDE);
        }
        check.due("none came", x.count(3), 0);
        check.due("1 and 199", x.saw(1, 199), 1);
        check.due("99 and 1", x.saw(99, 1), 2);
        check.due("not later, v 0", x.saw(99, 0), OUTSIDE);
        check.due("not later, v 200", x.saw(1, 200), OUTSIDE);
        check.due("two", x.count(3), 2);
        check.due("first u 1", new BackPages().saw(1, 1), 1);
        check.due("first u 99", new BackPages().saw(99, 199), 1);
    }

    private static void pairsFull() {
        check.sentence("PAIRS (20 at most) are looked up");
        BackPages x = new BackPages();
        for (int i = 1; i <= 20; i++) {
            check.due("pair " + i, x.saw(i, i), i);
        }
        check.due("pair 21", x.saw(21, 21), FULL);
        check.due("still full", x.saw(99, 1), FULL);
        check.due("not later", x.saw(20, 21), NOT);
        check.due("outside", x.saw(21, 200), OUTSIDE);
        check.due("twenty", x.count(3), 20);
        check.due("the last one is there", x.story(1, 19), 1);
        check.due("no 21st", x.story(1, 20), UNKNOWN);
    }

    private static void forgetting() {
        check.sentence("There are no PAIRS: how many there were");
        BackPages x = new BackPages();
        check.due("none", x.forget(), 0);
        for (int i = 1; i <= 20; i++) {
            x.saw(i + 70, i);
        }
        check.due("twenty", x.forget(), 20);
        check.due("none then", x.forget(), 0);
        check.due("count", x.count(3), 0);
        check.due("story", x.story(5, NONE), 0);
        check.due("pair 0", x.story(5, 0), UNKNOWN);
        check.due("an earlier page", x.saw(1, 1), 1);
    }

    // ---- the story

    private static void tell(int c, int cost, String stands, int... shifts) {
        BackPages x = new BackPages();
        for (int i = 0; i < shifts.length; i++) {
            x.saw(30 + 3 * i, 30 + 3 * i + shifts[i]);
        }
        check.due("story by " + c, x.story(c, NONE), cost);
        StringBuilder got = new StringBuilder();
        for (int i = 0; i < shifts.length; i++) {
            got.append(x.story(c, i));
        }
        check.due("stands by " + c, got.toString(), stands);
    }

    private static void standsOrLeftOut() {
        check.sentence("THE STORY by c (0 .. 20): each PAIR STANDS or is left out (for 1)");
        tell(0, 0, "111", 1, 2, 3);
        tell(20, 0, "111", 4, 4, 4);
        tell(20, 0, "1", 9);
        tell(0, 0, "1", 9);
        tell(20, 1, "10", 1, 2);
        tell(20, 5, "000111100", 1, 2, 3, 4, 4, 4, 4, 5, 0);
    }

    private static void standsAhead() {
        check.sentence("a PAIR that STANDS for c, if v less u is other than of the PAIR that STANDS ahead of it");
        tell(1, 1, "101", 0, 9, 0);
        tell(2, 2, "1001", 0, 9, 9, 0);
        tell(1, 2, "1111", 0, 9, 9, 0);
        tell(2, 2, "1111", 0, 0, 9, 9);
        // the first has none ahead of it: it is free
        tell(20, 0, "11", 9, 9);
        tell(4, 4, "11111111", 0, 0, 0, 0, 9, 9, 9, 9);
    }

    private static void fewestLeftOut() {
        check.sentence("what all comes to at the least; of like ones with the fewest left out");
        tell(1, 1, "11", 0, 5);
        tell(2, 1, "10", 0, 5);
        tell(2, 2, "1111", 0, 0, 5, 5);
        tell(3, 3, "111111", 0, 0, 0, 5, 5, 5);
        tell(4, 3, "111000", 0, 0, 0, 5, 5, 5);
        tell(1, 3, "10111", 2, 0, 2, 1, 0);
    }

    private static void firstThatStands() {
        check.sentence("of like ones the first (PAIR by PAIR one that STANDS ahead)");
        tell(20, 1, "10", 1, 2);
        tell(20, 2, "100", 1, 2, 3);
        tell(20, 2, "1100", 0, 0, 5, 5);
        tell(20, 2, "1010", 0, 5, 0, 5);
        tell(20, 2, "0110", 1, 5, 5, 2);
        tell(20, 4, "100100", 7, 1, 2, 7, 3, 4);
    }

    private static void shifts() {
        check.sentence("if v less u is other", "below 0, too");
        int[][] pairs = {{1, 199, 99, 1}, {1, 1, 99, 99}, {1, 101, 99, 199}, {50, 1, 99, 50}, {50, 49, 51, 52}, {50, 60, 51, 60}, {50, 60, 51, 61}};
        int[] due = {1, 0, 0, 0, 1, 1, 0};
        for (int i = 0; i < pairs.length; i++) {
            BackPages x = new BackPages();
            x.saw(pairs[i][0], pairs[i][1]);
            x.saw(pairs[i][2], pairs[i][3]);
            check.due("row " + i, x.story(20, NONE), due[i]);
            check.due("the second stands in row " + i, x.story(20, 1), 1 - due[i]);
        }
    }

    private static void twentyPairs() {
        check.sentence("what all comes to at the least", "of 20 pairs");
        int[] unlike = {1, 2, 3, 4, 5, 6, 7, 8, 9, 10, 11, 12, 13, 14, 15, 16, 17, 18, 19, 20};
        tell(0, 0, "1".repeat(20), unlike);
        tell(1, 19, "1".repeat(20), unlike);
        tell(2, 19, "1" + "0".repeat(19), unlike);
        tell(20, 19, "1" + "0".repeat(19), unlike);
        int[] halves = {1, 1, 1, 1, 1, 1, 1, 1, 1, 1, 2, 2, 2, 2, 2, 2, 2, 2, 2, 2};
        tell(9, 9, "1".repeat(20), halves);
        tell(10, 10, "1".repeat(20), halves);
        tell(11, 10, "1".repeat(10) + "0".repeat(10), halves);
        tell(20, 10, "1".repeat(10) + "0".repeat(10), halves);
        int[] last = {1, 2, 2, 2, 2, 2, 2, 2, 2, 2, 2, 2, 2, 2, 2, 2, 2, 2, 2, 3};
        tell(20, 2, "0" + "1".repeat(18) + "0", last);
        tell(1, 2, "1".repeat(20), last);
        // what more pairs came to is not in the way
        BackPages x = new BackPages();
        for (int size : new int[] {20, 3, 7, 2, 1, 5}) {
            x.forget();
            for (int i = 1; i <= size; i++) {
                x.saw(i, 2 * i);
            }
            check.due(size + " unlike ones", x.story(20, NONE), size - 1);
            check.due("the first of " + size, x.story(20, 0), 1);
            check.due("the last of " + size, x.story(20, size - 1), size == 1 ? 1 : 0);
            check.due(size + " by 1", x.story(1, NONE), size - 1);
            check.due("the last of " + size + " by 1", x.story(1, size - 1), 1);
        }
    }

    private static void storyBounds() {
        check.sentence("THE STORY by c: i = NONE what it comes to, else whether PAIR i STANDS (1, 0). UNKNOWN, OUTSIDE");
        BackPages x = new BackPages();
        x.saw(1, 1);
        x.saw(2, 1);
        check.due("c 0", x.story(0, NONE), 0);
        check.due("c 20", x.story(20, NONE), 1);
        check.due("c 0, the last", x.story(0, 1), 1);
        check.due("c 20, the last", x.story(20, 1), 0);
        for (int c : new int[] {-1, 21, LEAST, MOST}) {
            check.due("c " + c, x.story(c, NONE), OUTSIDE);
            check.due("c " + c + ", pair 0", x.story(c, 0), OUTSIDE);
            check.due("c " + c + ", pair 2", x.story(c, 2), UNKNOWN);
            check.due("c " + c + ", pair -2", x.story(c, -2), UNKNOWN);
            check.due("c " + c + " of none", new BackPages().story(c, NONE), OUTSIDE);
        }
        for (int i : new int[] {-2, 2, 20, LEAST, MOST}) {
            check.due("pair " + i, x.story(5, i), UNKNOWN);
        }
        check.due("of none", new BackPages().story(0, NONE), 0);
        check.due("of none, c 20", new BackPages().story(20, NONE), 0);
        check.due("of none, pair 0", new BackPages().story(0, 0), UNKNOWN);
    }
}
