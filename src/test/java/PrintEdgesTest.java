/** The order, lines and promises 13 to 17: each sentence that names a boundary, in the document's order. */
public final class PrintEdgesTest {
    private static final Check check = new Check();
    private static final int NONE = BackPages.NONE, UNKNOWN = BackPages.UNKNOWN, OUTSIDE = BackPages.OUTSIDE;
    private static final int LEAST = Integer.MIN_VALUE, MOST = Integer.MAX_VALUE;
    private static final String LONG = "abcdefghijkl", OTHER = "mnopqrstuvwx";

    public static void main(String[] args) {
        orderAtFirst();
        letterByLetter();
        wordByWord();
        beginsWith();
        alike();
        whatIsPrinted();
        rowsInOrder();
        seeAlone();
        ownRuns();
        subsWithMarks();
        filledWithSee();
        alsoRow();
        runUnits();
        justTheWidth();
        continued();
        endsHoweverLong();
        firstUnit();
        widthOfSubs();
        widthOfAlso();
        lineEnds();
        orderBounds();
        atBounds();
        subAtBounds();
        widthBounds();
        printBounds();
        printedNow();
        fullBook();
        check.end();
    }

    private static String order(BackPages x) {
        StringBuilder out = new StringBuilder();
        for (int i = 0; x.at(i) != NONE; i++) {
            out.append(Check.name(x, x.at(i), NONE)).append(' ');
        }
        return out.toString().trim();
    }

    private static BackPages heads(String... words) {
        StringBuilder text = new StringBuilder();
        for (String word : words) {
            text.append("asked ").append(word).append(" 1;");
        }
        return Check.of(text.toString());
    }

    /** One head with marks of one page each, or runs. */
    private static BackPages marked(String head, String... pages) {
        StringBuilder text = new StringBuilder();
        for (String page : pages) {
            text.append("mark ").append(head).append(' ').append(page).append(';');
        }
        return Check.of(text.toString());
    }

    // ---- the order

    private static void orderAtFirst() {
        check.sentence("THE ORDER (0 at first)");
        check.due("a new one's", new BackPages().order(1), 0);
        check.due("letter by letter", order(heads("a_z", "ab")), "ab a_z");
    }

    private static void letterByLetter() {
        check.sentence("0 LETTER BY LETTER: '_' is left out");
        check.due("between letters", order(heads("b_a", "ba", "a_z", "ab", "a_b_c", "abd")), "ab a_b_c abd a_z b_a ba");
        check.due("a beginning of the letters", order(heads("new_york", "newyor", "newyorks")), "newyor new_york newyorks");
    }

    private static void wordByWord() {
        check.sentence("1 WORD BY WORD: '_' is less than all letters");
        BackPages x = heads("b_a", "ba", "a_z", "aa", "az", "a", "a_a_a", "a_aa");
        x.order(1);
        check.due("ahead of a", order(x), "a a_a_a a_aa a_z aa az b_a ba");
    }

    private static void beginsWith() {
        check.sentence("Byte by byte the lesser is ahead; one with which the other begins is ahead");
        for (int how = 0; how <= 1; how++) {
            BackPages x = heads("abc", "b", "ab", "a", "z", LONG, LONG.substring(0, 11), "abcdefghijkm", "zz", "abz");
            x.order(how);
            check.due("order " + how, order(x), "a ab abc abcdefghijk " + LONG + " abcdefghijkm abz b z zz");
        }
    }

    private static void alike() {
        check.sentence("of like ones the lesser number. (HEADS so among themselves, SUBS of a HEAD likewise.)");
        check.due("three alike", order(heads("abc", "a_bc", "ab_c")), "abc a_bc ab_c");
        check.due("turned", order(heads("ab_c", "a_bc", "abc")), "ab_c a_bc abc");
        check.due("twelve bytes and eleven", order(heads("abcdefghij_k", "abcdefghijk")), "abcdefghij_k abcdefghijk");
        check.due("eleven bytes and twelve", order(heads("abcdefghijk", "abcdefghij_k")), "abcdefghijk abcdefghij_k");
        BackPages x = Check.of("mark a/x_y 1;mark a/xy 2;mark a/x_yz 3;mark a/x 4;");
        check.due("subs", Check.printed(x), "a\n  x, 4\n  x_y, 1\n  xy, 2\n  x_yz, 3\n");
        BackPages y = Check.of("mark a/xy 1;mark a/x_y 2;");
        check.due("subs turned", Check.printed(y), "a\n  xy, 1\n  x_y, 2\n");
        y.order(1);
        check.due("not alike word by word", Check.printed(y), "a\n  x_y, 2\n  xy, 1\n");
    }

    // ---- what is printed

    private static void whatIsPrinted() {
        check.sentence("PRINTED are, in THE ORDER, HEADS that are FILLED or have a SEE or ALSO");
        BackPages x = Check.of("asked e 1;mark d/s 1;also c e;see b e;mark a 1;");
        check.due("all but e", Check.printed(x), "a, 1\nb, see e\nc\n  see also e\nd\n  s, 1\n");
        x.drop(0);
        check.due("without marks", Check.printed(x), "a, 1\nb, see e\nc\n  see also e\n");
        check.due("none", Check.printed(heads("a", "b")), "");
    }

    private static void rowsInOrder() {
        check.sentence("of each in this order: if it is not FILLED and has a SEE");
        BackPages x = Check.of("also c d;also c a;see c e;mark c/t 9;mark c/s 7;mark c 5;mark c 3;see b c;also b a;also b e;");
        check.due("own, subs, see, also", Check.printed(x), "b, see c\n  see also a, e\nc, 3, 5\n  s, 7\n  t, 9\n  see e\n  see also a, d\n");
        check.due("c's lines", x.head(0, 6), 5);
        check.due("b's lines", x.head(4, 6), 2);
    }

    private static void seeAlone() {
        check.sentence("if it is not FILLED and has a SEE: a row of the one unit: HEAD, ', see ', the other HEAD");
        BackPages x = Check.of("see " + LONG + " " + OTHER + ";");
        check.due("thirty bytes", Check.printed(x), LONG + ", see " + OTHER + "\n");
        x.width(20);
        check.due("one unit is never broken", Check.printed(x), LONG + ", see " + OTHER + "\n");
        check.due("one line", x.head(0, 6), 1);
        check.due("with also", Check.printed(Check.of("see a b;also a b;")), "a, see b\n  see also b\n");
    }

    private static void ownRuns() {
        check.sentence("else a row of units: HEAD, then its OWN RUNS");
        check.due("none", Check.printed(Check.of("mark a/s 1;")), "a\n  s, 1\n");
        check.due("one", Check.printed(Check.of("mark a 1;")), "a, 1\n");
        check.due("not filled, without a see", Check.printed(Check.of("also a b;")), "a\n  see also b\n");
    }

    private static void subsWithMarks() {
        check.sentence("Of each SUB that has MARKS: a row of units: two blanks and the SUB, then its RUNS");
        BackPages x = Check.of("mark a/f 1;mark a/e 2;mark a/d 3;mark a/c 4;mark a/b 5;mark a/a 6;");
        check.due("six", Check.printed(x), "a\n  a, 6\n  b, 5\n  c, 4\n  d, 3\n  e, 2\n  f, 1\n");
        x.drop(5);
        x.drop(0);
        check.due("two without marks", Check.printed(x), "a\n  b, 5\n  c, 4\n  d, 3\n  e, 2\n");
    }

    private static void filledWithSee() {
        check.sentence("If it is FILLED and has a SEE: a row of the one unit: two blanks, 'see ', the other HEAD");
        check.due("by own", Check.printed(Check.of("mark a 1;see a b;")), "a, 1\n  see b\n");
        check.due("by a sub", Check.printed(Check.of("see a b;mark a/s 1;")), "a\n  s, 1\n  see b\n");
        check.due("ahead of also", Check.printed(Check.of("also a b;see a b;mark a 1;")), "a, 1\n  see b\n  see also b\n");
    }

    private static void alsoRow() {
        check.sentence("If it has ALSO: a row of units: these HEADS in THE ORDER, ahead of the first two blanks and 'see also '");
        BackPages x = Check.of("also a d;also a c_z;also a cb;mark a 1;");
        check.due("letter by letter", Check.printed(x), "a, 1\n  see also cb, c_z, d\n");
        check.due("the first and the last of all", Check.printed(Check.of("also b c;also b a;")), "b\n  see also a, c\n");
        x.order(1);
        check.due("word by word", Check.printed(x), "a, 1\n  see also c_z, cb, d\n");
    }

    private static void runUnits() {
        check.sentence("A RUN: its PAGE, or its first, '-', its last one; a '*' ahead, if it is MAIN");
        check.due("pages of one and two figures", Check.printed(marked("a", "1", "9 main", "3-4", "11-99 main")),
                "a, 1, 3-4, *9, *11-99\n");
        check.due("9 to 10", Check.printed(marked("a", "9-10")), "a, 9-10\n");
        check.due("all", Check.printed(marked("a", "1-99 main")), "a, *1-99\n");
        check.due("10, 90", Check.printed(marked("a", "10", "90")), "a, 10, 90\n");
    }

    // ---- lines

    private static void justTheWidth() {
        check.sentence("another one behind ', ', if the LINE is WIDTH (20 .. 80; 30 at first) bytes long at most with that");
        BackPages x = marked("ab", "10", "20", "30", "40", "50", "60", "70");
        check.due("30 at first", Check.printed(x), "ab, 10, 20, 30, 40, 50, 60, 70\n");
        x.width(29);
        check.due("30 bytes in 29", Check.printed(x), "ab, 10, 20, 30, 40, 50, 60,\n    70\n");
        BackPages y = marked("abcd", "10", "20", "30", "40");
        y.width(20);
        check.due("20 bytes in 20", Check.printed(y), "abcd, 10, 20, 30, 40\n");
        BackPages longer = marked("abcde", "10", "20", "30", "40");
        longer.width(20);
        check.due("21 bytes in 20", Check.printed(longer), "abcde, 10, 20, 30,\n    40\n");
        longer.width(21);
        check.due("21 bytes in 21", Check.printed(longer), "abcde, 10, 20, 30, 40\n");
        check.due("80 bytes in 80", wide("abcd"), 1);
        check.due("81 bytes in 80", wide("abcde"), 2);
    }

    /** Lines of a head and 19 runs of four bytes each, in 80. */
    private static int wide(String head) {
        BackPages x = heads(head);
        for (int i = 0; i < 19; i++) {
            x.add(0, NONE, 10 + 2 * i, 10 + 2 * i, false);
        }
        x.width(80);
        check.due("bytes", x.count(5), x.count(4) == 1 ? head.length() + 77 : head.length() + 77 + 4);
        return x.count(4);
    }

    private static void continued() {
        check.sentence("else ',' ends the LINE (however long that is) and the unit begins a new one, with four blanks ahead");
        BackPages x = marked("abcdef", "10", "12", "14", "16", "18", "20", "22", "24-25", "30", "32", "34", "36", "38");
        x.width(20);
        // "abcdef, 10, 12, 14, 16" would have 22 bytes, "    24-25, 30, 32, 34" 21
        check.due("lines that go on", Check.printed(x),
                "abcdef, 10, 12, 14,\n    16, 18, 20, 22,\n    24-25, 30, 32,\n    34, 36, 38\n");
        BackPages y = marked("abcdef", "10", "12", "14", "16", "18", "20", "22 main", "24");
        y.width(20);
        check.due("just 20 with four blanks", Check.printed(y), "abcdef, 10, 12, 14,\n    16, 18, 20, *22,\n    24\n");
    }

    private static void endsHoweverLong() {
        check.sentence("else ',' ends the LINE (however long that is)");
        BackPages x = marked("abcd", "10", "20", "30", "40", "50");
        x.width(20);
        check.due("20 bytes and the ','", Check.printed(x), "abcd, 10, 20, 30, 40,\n    50\n");
    }

    private static void firstUnit() {
        check.sentence("Units of a row stand on LINES: the first one on a new LINE");
        BackPages x = Check.of("also a " + LONG + ";also a " + OTHER + ";");
        x.width(20);
        check.due("23 bytes in 20", Check.printed(x), "a\n  see also " + LONG + ",\n    " + OTHER + "\n");
    }

    private static void widthOfSubs() {
        check.sentence("bytes long at most with that", "a sub's two blanks count");
        BackPages x = Check.of("mark a/bc 10;mark a/bc 20;mark a/bc 30;mark a/bc 40;");
        x.width(20);
        check.due("20 bytes", Check.printed(x), "a\n  bc, 10, 20, 30, 40\n");
        BackPages y = Check.of("mark a/bcd 10;mark a/bcd 20;mark a/bcd 30;mark a/bcd 40;");
        y.width(20);
        check.due("21 bytes", Check.printed(y), "a\n  bcd, 10, 20, 30,\n    40\n");
    }

    private static void widthOfAlso() {
        check.sentence("bytes long at most with that", "'see also ' counts");
        BackPages x = Check.of("also a bcd;also a efgh;");
        x.width(20);
        check.due("20 bytes", Check.printed(x), "a\n  see also bcd, efgh\n");
        BackPages y = Check.of("also a bcd;also a efghi;also a j;");
        y.width(20);
        check.due("21 bytes", Check.printed(y), "a\n  see also bcd,\n    efghi, j\n");
    }

    private static void lineEnds() {
        check.sentence("Each LINE ends with a byte 10 (not counted for WIDTH)");
        BackPages x = marked("abcd", "10", "20", "30", "40", "50");
        x.width(20);
        check.due("byte 20 is ','", x.print(20), ',');
        check.due("byte 21", x.print(21), 10);
        check.due("byte 22", x.print(22), ' ');
        check.due("the last", x.print(x.count(5) - 1), 10);
        check.due("two lines", x.count(4), 2);
    }

    // ---- promises 13 to 17

    private static void orderBounds() {
        check.sentence("THE ORDER becomes so (0, 1): what it was. OUTSIDE");
        BackPages x = heads("a_z", "ab");
        check.due("0 to 0", x.order(0), 0);
        check.due("0 to 1", x.order(1), 0);
        for (int how : new int[] {-1, 2, 3, LEAST, MOST}) {
            check.due("order " + how, x.order(how), OUTSIDE);
            check.due("as it was", x.at(0), 0);
        }
        check.due("1 to 1", x.order(1), 1);
        check.due("1 to 0", x.order(0), 1);
        check.due("it is 0", x.at(0), 1);
    }

    private static void atBounds() {
        check.sentence("The i-th HEAD in THE ORDER (of all of them); NONE: not so many (i below 0, too)");
        BackPages x = heads("p", "o", "n", "m", "l", "k", "j", "i", "h", "g", "f", "e", "d", "c", "b", "a");
        for (int i = 0; i < 16; i++) {
            check.due("at " + i, x.at(i), 15 - i);
        }
        for (int i : new int[] {-1, -2, 16, 17, LEAST, MOST}) {
            check.due("at " + i, x.at(i), NONE);
            check.due("of none, at " + i, new BackPages().at(i), NONE);
        }
        check.due("of none, at 0", new BackPages().at(0), NONE);
        check.due("behind one", heads("a").at(1), NONE);
    }

    private static void subAtBounds() {
        check.sentence("The i-th SUB of a HEAD in THE ORDER (of all of them); NONE: not so many (i below 0, too). UNKNOWN");
        BackPages x = Check.of("asked z 1;mark a/f 1;mark a/e 2;mark a/d 3;mark a/c 4;mark a/b 5;mark a/a 6;mark b/x 1;mark b/w 2;");
        x.drop(5);
        for (int i = 0; i < 6; i++) {
            check.due("subAt " + i, x.subAt(1, i), 5 - i);
        }
        check.due("another head's first", x.subAt(2, 0), 1);
        check.due("its third", x.subAt(2, 2), NONE);
        for (int i : new int[] {-1, -2, 6, 7, LEAST, MOST}) {
            check.due("subAt " + i, x.subAt(1, i), NONE);
            check.due("without subs, subAt " + i, x.subAt(0, i), NONE);
        }
        check.due("without subs, subAt 0", x.subAt(0, 0), NONE);
        for (int h : new int[] {-1, 3, LEAST, MOST}) {
            check.due("of head " + h, x.subAt(h, 0), UNKNOWN);
            check.due("of head " + h + ", subAt -1", x.subAt(h, -1), UNKNOWN);
        }
        check.due("of none", new BackPages().subAt(0, 0), UNKNOWN);
    }

    private static void widthBounds() {
        check.sentence("WIDTH becomes v: what it was. OUTSIDE");
        BackPages x = new BackPages();
        check.due("30 at first", x.width(20), 30);
        check.due("20", x.width(80), 20);
        for (int v : new int[] {19, 81, 0, -1, 82, LEAST, MOST}) {
            check.due("width " + v, x.width(v), OUTSIDE);
        }
        check.due("still 80", x.width(79), 80);
        check.due("79", x.width(21), 79);
        check.due("21", x.width(21), 21);
    }

    private static void printBounds() {
        check.sentence("Byte i of what is PRINTED; NONE: it has not so many");
        BackPages x = marked("a", "5");
        check.due("printed", Check.printed(x), "a, 5\n");
        check.due("the first", x.print(0), 'a');
        check.due("the last", x.print(4), 10);
        for (int i : new int[] {5, 6, -1, -2, LEAST, MOST, 3072, 65536}) {
            check.due("byte " + i, x.print(i), NONE);
            check.due("of none, byte " + i, new BackPages().print(i), NONE);
        }
        check.due("of none, byte 0", new BackPages().print(0), NONE);
        x.drop(0);
        check.due("of what is left", x.print(0), NONE);
    }

    private static void printedNow() {
        check.sentence("Byte i of what is PRINTED", "as it is by then");
        BackPages x = new BackPages();
        check.due("none", Check.printed(x), "");
        Check.feed(x, "mark a 5;mark b_c 7;mark bb 10;see d a;");
        x.read();
        check.due("read", Check.printed(x), "a, 5\nbb, 10\nb_c, 7\nd, see a\n");
        x.add(3, NONE, 9, 9, true);
        check.due("added", Check.printed(x), "a, 5\nbb, 10\nb_c, 7\nd, *9\n  see a\n");
        x.drop(0);
        check.due("dropped", Check.printed(x), "bb, 10\nb_c, 7\nd, *9\n  see a\n");
        x.order(1);
        check.due("ordered", Check.printed(x), "b_c, 7\nbb, 10\nd, *9\n  see a\n");
        x.keep(0);
        x.putIn(8, 2);
        check.due("put in", Check.printed(x), "b_c, 7\nbb, 12\nd, *11\n  see a\n");
        x.takeOut(7, 7);
        check.due("taken out", Check.printed(x), "bb, 11\nd, *10\n  see a\n");
        x.join(2, 3);
        check.due("joined", Check.printed(x), "bb, *10-11\nd, see bb\n");
        x.goBack(0);
        check.due("gone back", Check.printed(x), "b_c, 7\nbb, 10\nd, *9\n  see a\n");
        for (int p = 20; p <= 40; p += 5) {
            x.add(2, NONE, p, p, false);
        }
        check.due("24 bytes", Check.printed(x), "b_c, 7\nbb, 10, 20, 25, 30, 35, 40\nd, *9\n  see a\n");
        x.width(20);
        check.due("in 20", Check.printed(x), "b_c, 7\nbb, 10, 20, 25, 30,\n    35, 40\nd, *9\n  see a\n");
        Check.feed(x, "mark q");
        x.read();
        check.due("a fault", Check.printed(x), "b_c, 7\nbb, 10, 20, 25, 30,\n    35, 40\nd, *9\n  see a\n");
        x.read();
        check.due("no heads", Check.printed(x), "");
    }

    /** As much as the bounds let in: 16 heads and six subs of 12 bytes, 60 marks, 8 also; against the second writing. */
    private static void fullBook() {
        check.sentence("Byte i of what is PRINTED", "a full book");
        StringBuilder text = new StringBuilder();
        for (int h = 0; h < 16; h++) {
            text.append("asked bcdefghijkl").append((char) ('a' + h)).append("1;");
        }
        for (int i = 1; i <= 8; i++) {
            text.append("also bcdefghijkla bcdefghijkl").append((char) ('a' + i)).append(';');
        }
        text.append("mark bcdefghijkla/cdefghijklmn5;");
        BackPages x = new BackPages();
        PlainPages y = new PlainPages();
        for (int at = 0; at < text.length(); at++) {
            check.due("feed", x.feed(1, text.charAt(at)), y.feed(1, text.charAt(at)));
        }
        check.due("read", x.read(), y.read());
        check.due("sixteen", x.count(0), 16);
        check.due("of 600 bytes", text.length(), 600);
        for (int k = 1; k < 60; k++) {
            int page = 1 + k * 37 % 97;
            check.due("add", x.add(k % 5, k % 5 == 0 ? 0 : NONE, page, page, true), y.add(k % 5, k % 5 == 0 ? 0 : NONE, page, page, true));
        }
        for (int h = 5; h < 15; h++) {
            check.due("join", x.join(15, h), y.join(15, h));
        }
        for (int width : new int[] {20, 30, 80}) {
            x.width(width);
            y.width(width);
            check.due("in " + width, Check.printed(x), y.printed());
            check.due("bytes in " + width, x.count(5), y.printed().length());
            check.due("lines in " + width, x.count(4), y.count(4));
        }
    }
}
