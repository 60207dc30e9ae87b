/** Posted, the fit and promises 22 to 24: each sentence that names a boundary, in the document's order. */
public final class PostEdgesTest {
    private static final Check check = new Check();
    private static final int NONE = BackPages.NONE, UNKNOWN = BackPages.UNKNOWN, OUTSIDE = BackPages.OUTSIDE;
    private static final int NOT = BackPages.NOT, LEAST = Integer.MIN_VALUE, MOST = Integer.MAX_VALUE;

    public static void main(String[] args) {
        postedWithAllMarks();
        postedWithoutSee();
        postedBreaksLines();
        postedSubs();
        saves();
        withinLines();
        fewestLines();
        leastSet();
        tenByNumbers();
        noneWithin();
        folded();
        mustHaveASub();
        lossOfFolding();
        lossOfLeavingOut();
        fitsJust();
        fitsFewestLines();
        fitsFirstRow();
        setsOfHeads();
        cannotBePosted();
        postingBounds();
        fitBounds();
        notPrinted();
        mostLoss();
        changeNothing();
        check.end();
    }

    private static String heads(int many, String clause, String behind) {
        StringBuilder text = new StringBuilder();
        for (int h = 0; h < many; h++) {
            text.append(clause).append(' ').append((char) ('a' + h)).append(behind);
        }
        return text.toString();
    }

    private static void posting(BackPages x, int n, int set, int saves, int lines) {
        check.due("set in " + n, x.posting(n, 0), set);
        check.due("saves in " + n, x.posting(n, 1), saves);
        check.due("lines in " + n, x.posting(n, 2), lines);
    }

    private static void fit(BackPages x, int n, int loss, String row) {
        check.due("loss in " + n, x.fit(n, NONE), loss);
        StringBuilder got = new StringBuilder();
        for (int h = 0; h < row.length(); h++) {
            got.append(x.fit(n, h));
        }
        check.due("row in " + n, got.toString(), row);
    }

    // ---- posted

    private static void postedWithAllMarks() {
        check.sentence("POSTED is a HEAD that is not FILLED, if it is PRINTED as though it had all MARKS "
                + "(OWN, of SUBS) of the HEAD that is FOUND from it");
        BackPages x = Check.of("mark a 1;mark a/s 2;mark a/t 3;see b a;see c b;");
        check.due("none", x.posted(0), 5);
        check.due("b", x.posted(2), 7);
        check.due("c by two steps", x.posted(4), 7);
        check.due("both", x.posted(6), 9);
        x.drop(2);
        check.due("a sub without marks", x.posted(2), 5);
        x.drop(1);
        check.due("own alone", x.posted(2), 3);
        BackPages seen = Check.of("mark a 1;see a z;also a z;see b a;");
        check.due("'a, 1', '  see z', '  see also z', 'b, see a'", seen.count(4), 4);
        check.due("a's see and also are not b's", seen.posted(4), 4);
    }

    private static void postedWithoutSee() {
        check.sentence("of the HEAD that is FOUND from it, and no SEE", "its also it has");
        BackPages x = Check.of("mark a/s 1;see b a;also b c;");
        check.due("'b, see a', '  see also c'", x.head(1, 6), 2);
        check.due("'b', '  s, 1', '  see also c'", x.posted(2), x.count(4) + 1);
    }

    private static void postedBreaksLines() {
        check.sentence("LINES of the whole with a SET of HEADS POSTED", "lines as long as with the posted head");
        // "a, 10, 12, 14, 16" has 17 bytes; "abcde, 10, 12, 14, 16" 21, "abcd, .." 20
        BackPages x = Check.of("mark a 10;mark a 12;mark a 14;mark a 16;see abcde a;see abcd a;");
        x.width(20);
        check.due("none", x.posted(0), 3);
        check.due("21 bytes", x.posted(2), 4);
        check.due("20 bytes", x.posted(4), 3);
        check.due("both", x.posted(6), 4);
        x.width(21);
        check.due("both in 21", x.posted(6), 3);
    }

    private static void postedSubs() {
        check.sentence("as though it had all MARKS (OWN, of SUBS)", "the other's subs, not its own");
        // "  abcdefghijkl, 10, 12" has 22 bytes; b's own sub, without marks, is short
        BackPages x = Check.of("mark a/abcdefghijkl10;mark a/abcdefghijkl12;mark b/s5;see b a;");
        x.drop(2);
        x.width(20);
        check.due("a's lines", x.head(0, 6), 3);
        check.due("b posted", x.posted(2), 6);
        x.width(22);
        check.due("b posted in 22", x.posted(2), 4);
        BackPages shorter = Check.of("mark a/s10;mark a/s12;mark b/abcdefghijkl5;see b a;");
        shorter.drop(2);
        shorter.width(20);
        check.due("b's own sub is long", shorter.posted(2), 4);
        // a's subs are six, the last of them has two lines; those of the head that is printed last are others
        BackPages six = Check.of("mark a/f10;mark a/e10;mark a/d10;mark a/c10;mark a/b10;mark a/a10;mark z/s1;see b a;asked b 1;");
        for (int page = 12; page <= 18; page += 2) {
            six.add(0, 5, page, page, false);
        }
        six.width(20);
        check.due("a's lines", six.head(0, 6), 8);
        check.due("b posted", six.posted(4), 11 + 7);
        posting(six, 17, 0, 0, 11);
        posting(six, 18, 4, 1, 18);
    }

    // ---- the best posting

    private static void saves() {
        check.sentence("it SAVES how often it is ASKED for times its steps");
        BackPages x = Check.of("mark a 1;see b a;see c b;see d c;asked d 99;asked b 5;");
        posting(x, 4, 10, 99 * 3 + 5, 4);
        x.asked(3, 0);
        posting(x, 4, 2, 5, 4);
        x.asked(1, 0);
        posting(x, 4, 0, 0, 4);
        x.asked(2, 1);
        posting(x, 4, 4, 2, 4);
    }

    private static void withinLines() {
        check.sentence("THE BEST POSTING within n LINES: the SET of such HEADS (FOUND is not NONE; 10 at most, by numbers) "
                + "that SAVES most, if LINES of the whole with these POSTED are n or fewer");
        // b sees two lines more, c one
        BackPages x = Check.of("mark a/s 1;mark a/t 2;see b a;mark z/s 1;see c z;asked b 9;asked c 4;");
        check.due("plain", x.count(4), 7);
        posting(x, 7, 0, 0, 7);
        posting(x, 8, 8, 4, 8);
        posting(x, 9, 2, 9, 9);
        posting(x, 10, 10, 13, 10);
        posting(x, 11, 10, 13, 10);
    }

    private static void fewestLines() {
        check.sentence("of like ones with the fewest LINES");
        // b has the lesser number, but sees two lines more; c one
        BackPages x = Check.of("mark a/s 1;mark a/t 2;see b a;mark z/s 1;see c z;asked b 5;asked c 5;");
        posting(x, 8, 8, 5, 8);
        posting(x, 9, 8, 5, 8);
        posting(x, 10, 10, 10, 10);
        x.asked(3, 0);
        posting(x, 10, 2, 5, 9);
        x.asked(1, 0);
        posting(x, 10, 0, 0, 7);
    }

    private static void leastSet() {
        check.sentence("then the least SET");
        BackPages x = Check.of("mark z/s 1;see b z;see c z;see d z;asked b 5;asked c 5;asked d 5;");
        check.due("plain", x.count(4), 5);
        posting(x, 6, 2, 5, 6);
        posting(x, 7, 6, 10, 7);
        posting(x, 8, 14, 15, 8);
        BackPages y = Check.of("mark z/s 1;see b z;see c z;see d z;asked b 5;asked c 5;asked d 10;");
        posting(y, 6, 8, 10, 6);
        // 5 and 5 in two lines, or 10 in two lines: 4 + 8 is less than 16
        BackPages w = Check.of("mark z/s 1;mark y/s 1;mark y/t 2;see b z;see c z;see d y;asked b 5;asked c 5;asked d 10;");
        check.due("plain", w.count(4), 8);
        posting(w, 10, 4 + 8, 10, 10);
        // those that save nothing and take no line more are left out
        BackPages free = Check.of("mark z 1;see b z;see c z;asked c 1;");
        posting(free, 3, 4, 1, 3);
    }

    private static void tenByNumbers() {
        check.sentence("(FOUND is not NONE; 10 at most, by numbers)");
        BackPages x = Check.of(heads(12, "asked", " 1;") + "mark z 1;");
        for (int h = 11; h >= 1; h--) {
            x.join(12, h);
        }
        for (int h = 0; h <= 11; h++) {
            x.asked(h, h == 11 ? 99 : 1);
        }
        posting(x, 12, 0x7fe, 10, 12);
        check.due("the eleventh can be", x.posted(1 << 11), 12);
        x.add(1, NONE, 5, 5, false);
        posting(x, 13, 0xffc, 108, 13);
        x.join(12, 0);
        x.asked(0, 2);
        posting(x, 14, 0x7fd, 11, 14);
    }

    private static void noneWithin() {
        check.sentence("NONE, if those with none POSTED are more");
        BackPages x = Check.of("mark a 1;see b a;asked b 5;");
        posting(x, 0, NONE, NONE, NONE);
        posting(x, 1, NONE, NONE, NONE);
        posting(x, 2, 2, 5, 2);
        posting(new BackPages(), 0, 0, 0, 0);
        posting(Check.of("asked a 1;"), 0, 0, 0, 0);
        posting(Check.of("mark a 1;"), 1, 0, 0, 1);
        posting(Check.of("mark a 1;"), 0, NONE, NONE, NONE);
    }

    // ---- the fit

    private static void folded() {
        check.sentence("FOLDED is a HEAD, if it is PRINTED with RUNS of all its MARKS together as its OWN, without SUBS");
        // folded: "a, *1-6" for four lines
        BackPages x = Check.of("mark a 1-2;mark a/s 3-4 main;mark a/t 5;mark a/u 6;");
        fit(x, 4, 0, "0");
        fit(x, 3, 3, "1");
        fit(x, 1, 3, "1");
        fit(x, 0, 20, "2");
        // folded it has two lines: "abcdefghij, 10, 12," and "    14, 16"
        BackPages y = Check.of("mark abcdefghij 10;mark abcdefghij/s 12;mark abcdefghij/t 14;mark abcdefghij/u 16;");
        y.width(20);
        fit(y, 3, 3, "1");
        fit(y, 2, 3, "1");
        fit(y, 1, 20, "2");
        BackPages rest = Check.of("mark a/s 1;see a b;also a b;");
        check.due("'a', '  s, 1', '  see b', '  see also b'", rest.count(4), 4);
        fit(rest, 3, 1, "10");
        fit(rest, 2, 20, "20");
    }

    private static void mustHaveASub() {
        check.sentence("(it must have a SUB with MARKS)");
        fit(Check.of("mark a 10-12;mark a 20-22;mark a 30-32;mark a 40-42;mark a 50;"), 1, 20, "2");
        BackPages x = Check.of("mark a/s 1;mark a 3;");
        fit(x, 1, 1, "1");
        x.drop(0);
        fit(x, 1, 0, "0");
        fit(x, 0, 20, "2");
        fit(Check.of("see a b;also a b;"), 1, 20, "20");
    }

    private static void lossOfFolding() {
        check.sentence("its LOSS: one more than it is ASKED for, times how many such SUBS it has");
        BackPages x = Check.of("mark a/a 1;mark a/b 1;mark a/c 1;mark a/d 1;mark a/e 1;mark a/f 1;");
        fit(x, 6, 6, "1");
        x.asked(0, 99);
        fit(x, 6, 600, "1");
        x.asked(0, 1);
        fit(x, 6, 12, "1");
        x.drop(5);
        fit(x, 5, 10, "1");
        for (int k = 0; k < 4; k++) {
            x.drop(0);
        }
        fit(x, 1, 2, "1");
    }

    private static void lossOfLeavingOut() {
        check.sentence("LEFT OUT: not PRINTED: its LOSS: one more than it is ASKED for, times 20");
        BackPages x = Check.of("mark a 1;");
        fit(x, 0, 20, "2");
        x.asked(0, 1);
        fit(x, 0, 40, "2");
        x.asked(0, 99);
        fit(x, 0, 2000, "2");
        fit(x, 1, 0, "0");
        BackPages y = Check.of("mark a 1;mark b 1;asked a 1;");
        fit(y, 1, 20, "02");
    }

    private static void fitsJust() {
        check.sentence("THE FIT into n LINES (0 .. 200): of each HEAD that is PRINTED whether as it is (0), FOLDED (1), LEFT OUT (2), "
                + "so that LINES together are n or fewer: the least LOSS");
        // lines: a 3 (folded 1, loss 2), b 2 (folded 1, loss 1), c 1
        BackPages x = Check.of("mark a/s 1;mark a/t 3;mark b/s 1;mark c 1;");
        fit(x, 7, 0, "000");
        fit(x, 6, 0, "000");
        fit(x, 5, 1, "010");
        fit(x, 4, 2, "100");
        fit(x, 3, 3, "110");
        // without a and b folded 21; a folded and without b 22
        fit(x, 2, 21, "210");
        fit(x, 1, 40, "220");
        fit(x, 0, 60, "222");
    }

    private static void fitsFewestLines() {
        check.sentence("of like ones the fewest LINES");
        // without a or without b: the loss is like, a has two lines and b one
        BackPages x = Check.of("mark b 1;mark a 10-12;mark a 20-22;mark a 30-32;mark a 40-42;mark a 50;mark c 1;");
        check.due("a's lines", x.head(1, 6), 2);
        fit(x, 3, 20, "020");
        fit(x, 2, 20, "020");
        BackPages y = Check.of("mark a 10-12;mark a 20-22;mark a 30-32;mark a 40-42;mark a 50;mark b 1;mark c 1;");
        fit(y, 3, 20, "200");
    }

    private static void fitsFirstRow() {
        check.sentence("of like ones the first row (HEAD by HEAD by numbers)");
        BackPages x = Check.of("mark c 1;mark b 1;mark a 1;");
        fit(x, 2, 20, "002");
        fit(x, 1, 40, "022");
        BackPages y = Check.of("mark c/s 1;mark b/s 1;mark a/s 1;");
        fit(y, 5, 1, "001");
        fit(y, 4, 2, "011");
        fit(y, 3, 3, "111");
        fit(y, 2, 22, "112");
    }

    // ---- promises 22 to 24

    private static void setsOfHeads() {
        check.sentence("UNKNOWN (a HEAD, SUB, MARK, PAIR, IMAGE that there is not; bits of such)");
        BackPages x = Check.of(heads(16, "asked", " 1;"));
        x.add(0, NONE, 1, 1, false);
        for (int h = 1; h < 16; h++) {
            x.join(0, h);
        }
        check.due("none", x.posted(0), 16);
        check.due("bit 15", x.posted(1 << 15), 16);
        check.due("15 of them", x.posted(0xfffe), 16);
        check.due("bit 16", x.posted(1 << 16), UNKNOWN);
        check.due("bit 16 and others", x.posted(0x1fffe), UNKNOWN);
        check.due("bit 16 and bit 0", x.posted(0x10001), UNKNOWN);
        check.due("bit 31", x.posted(LEAST), UNKNOWN);
        check.due("bit 30", x.posted(1 << 30), UNKNOWN);
        check.due("all bits", x.posted(-1), UNKNOWN);
        check.due("all but the last", x.posted(MOST), UNKNOWN);
        check.due("of none, none", new BackPages().posted(0), 0);
        check.due("of none, bit 0", new BackPages().posted(1), UNKNOWN);
        check.due("bit 1 of one", Check.of("mark a 1;").posted(2), UNKNOWN);
    }

    private static void cannotBePosted() {
        check.sentence("LINES of the whole with a SET of HEADS POSTED. UNKNOWN, NOT: some of them cannot be");
        BackPages x = Check.of("mark a 1;see b a;asked c 1;see d e;see e d;see f c;also g a;mark h 1;see h a;");
        check.due("b", x.posted(2), x.count(4));
        for (int h : new int[] {0, 2, 3, 4, 5, 6, 7}) {
            check.due("head " + h, x.posted(1 << h), NOT);
            check.due("head " + h + " with b", x.posted(1 << h | 2), NOT);
        }
        check.due("with an unknown one", x.posted(1 | 1 << 8), UNKNOWN);
    }

    private static void postingBounds() {
        check.sentence("THE BEST POSTING within n LINES (0 .. 999): what = 0 the SET, 1 what it SAVES, 2 LINES; NONE. OUTSIDE");
        BackPages x = Check.of("mark a 1;see b a;asked b 7;");
        posting(x, 999, 2, 7, 2);
        for (int n : new int[] {-1, 1000, LEAST, MOST}) {
            for (int what = 0; what <= 2; what++) {
                check.due("n " + n + ", what " + what, x.posting(n, what), OUTSIDE);
            }
            check.due("n " + n + ", what 3", x.posting(n, 3), OUTSIDE);
        }
        for (int what : new int[] {-1, 3, LEAST, MOST}) {
            check.due("what " + what, x.posting(2, what), OUTSIDE);
            check.due("what " + what + " where it is NONE", x.posting(0, what), OUTSIDE);
            check.due("what " + what + " of none", new BackPages().posting(0, what), OUTSIDE);
        }
    }

    private static void fitBounds() {
        check.sentence("THE FIT into n LINES: h = NONE its LOSS, "
                + "else what is done with a HEAD (0 .. 2; 0 of one that is not PRINTED). UNKNOWN, OUTSIDE.");
        BackPages x = Check.of("mark a 1;mark b 1;");
        fit(x, 200, 0, "00");
        fit(x, 0, 40, "22");
        for (int n : new int[] {-1, 201, LEAST, MOST}) {
            check.due("n " + n, x.fit(n, NONE), OUTSIDE);
            check.due("n " + n + " of b", x.fit(n, 1), OUTSIDE);
            check.due("n " + n + " of head 2", x.fit(n, 2), UNKNOWN);
            check.due("n " + n + " of head -2", x.fit(n, -2), UNKNOWN);
        }
        for (int h : new int[] {-2, 2, 16, LEAST, MOST}) {
            check.due("head " + h, x.fit(5, h), UNKNOWN);
        }
        check.due("of none", new BackPages().fit(0, NONE), 0);
        check.due("of none, head 0", new BackPages().fit(0, 0), UNKNOWN);
        check.due("of none, n 201", new BackPages().fit(201, NONE), OUTSIDE);
    }

    private static void notPrinted() {
        check.sentence("(0 .. 2; 0 of one that is not PRINTED)");
        BackPages x = Check.of("asked a 9;mark b 1;asked c 9;mark d/s 1;");
        x.drop(1);
        fit(x, 0, 20, "0200");
        fit(x, 1, 0, "0000");
    }

    private static void mostLoss() {
        check.sentence("the least LOSS", "of 16 heads, each asked for 99 times");
        BackPages x = Check.of(heads(16, "mark", "/s 1;"));
        for (int h = 0; h < 16; h++) {
            x.asked(h, 99);
        }
        check.due("lines", x.count(4), 32);
        fit(x, 0, 32000, "2222222222222222");
        fit(x, 1, 30100, "1222222222222222");
        fit(x, 15, 2000 + 1500, "1111111111111112");
        fit(x, 16, 1600, "1111111111111111");
        fit(x, 17, 1500, "0111111111111111");
        fit(x, 31, 100, "0000000000000001");
        fit(x, 32, 0, "0000000000000000");
        BackPages plain = Check.of(heads(16, "mark", " 1;"));
        for (int n = 0; n <= 17; n++) {
            fit(plain, n, 20 * Math.max(0, 16 - n), "0".repeat(Math.min(n, 16)) + "2".repeat(Math.max(0, 16 - n)));
        }
        // what an earlier and larger book came to is not in the way
        String[] texts = {"mark a 1;mark b/s 1;mark c 1;", "mark a/s 1;mark b 1;", "mark a 1;mark b/s 1;mark c/s 1;mark d 1;", "mark a/s 1;"};
        int[] lines = {4, 3, 6, 2};
        int[][] losses = {{60, 40, 20, 1, 0}, {40, 20, 1, 0}, {80, 60, 40, 21, 2, 1, 0}, {20, 1, 0}};
        for (int i = 0; i < texts.length; i++) {
            Check.feed(x, texts[i]);
            x.read();
            check.due("lines of " + texts[i], x.count(4), lines[i]);
            for (int n = lines[i]; n >= 0; n--) {
                check.due(texts[i] + " in " + n, x.fit(n, NONE), losses[i][n]);
            }
        }
    }

    private static void changeNothing() {
        check.sentence("if it is PRINTED as though", "asking changes nothing");
        BackPages x = Check.of("mark a/s 1;see b a;asked b 5;");
        String before = Check.printed(x);
        x.posted(2);
        x.posting(9, 0);
        x.fit(0, NONE);
        x.fit(2, 0);
        check.due("printed as it was", Check.printed(x), before);
        check.due("b is not filled", x.head(1, 5), 0);
        check.due("b sees a", x.head(1, 2), 0);
    }
}
