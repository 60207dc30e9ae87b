/** Promises 22 to 24: posted, the best posting, the fit. */
public final class PostTest {
    private static final Check check = new Check();
    private static final int NONE = BackPages.NONE, UNKNOWN = BackPages.UNKNOWN, OUTSIDE = BackPages.OUTSIDE;
    private static final int NOT = BackPages.NOT;

    public static void main(String[] args) {
        posted();
        postedKeepsAlso();
        bestPosting();
        likePostings();
        tenAtMost();
        fits();
        likeFits();
        fitOfOddHeads();
        check.end();
    }

    /** long 0 has four lines, short 1 one; x 2 sees long, y 3 short, z 4 y. */
    private static BackPages sees() {
        return Check.of("mark long/a 1;mark long/b 2;mark long/c 3;mark short 5;see x long;see y short;see z y;"
                + "asked x 10;asked y 3;asked z 2;asked nothing 7;");
    }

    private static void posted() {
        BackPages x = sees();
        check.due("none", x.posted(0), 8);
        check.due("x", x.posted(4), 11);
        check.due("y", x.posted(8), 8);
        check.due("z by two steps", x.posted(16), 8);
        check.due("all", x.posted(28), 11);
        check.due("a filled one", x.posted(1), NOT);
        check.due("a filled one among others", x.posted(6), NOT);
        check.due("a blind one", x.posted(32), NOT);
        check.due("bit 6", x.posted(64), UNKNOWN);
        check.due("bit 6 and a filled one", x.posted(65), UNKNOWN);
        check.due("bit 31", x.posted(Integer.MIN_VALUE), UNKNOWN);
        check.due("all bits", x.posted(-1), UNKNOWN);
        check.due("nothing changed", x.count(4), 8);
        BackPages round = Check.of("see a b;see b a;mark c 1;");
        check.due("one that goes round", round.posted(1), NOT);
    }

    private static void postedKeepsAlso() {
        // a posted: "a, 10-12, 20-22, 30-32," + "    40", "  see also c"; not posted: "a, see b", "  see also c"
        BackPages x = Check.of("see a b;mark b 10-12;mark b 20-22;mark b 30-32;mark b 40;see b d;also a c;also b a;mark d 1;");
        check.due("plain", x.count(4), 6);
        check.due("b's lines", x.head(1, 6), 3);
        check.due("posted, in one line", x.posted(1), 6);
        x.width(24);
        check.due("plain in narrow ones", x.count(4), 7);
        check.due("posted in narrow ones", x.posted(1), 8);
    }

    private static void posting(BackPages x, int n, int set, int saves, int lines) {
        check.due("posting set in " + n, x.posting(n, 0), set);
        check.due("posting saves in " + n, x.posting(n, 1), saves);
        check.due("posting lines in " + n, x.posting(n, 2), lines);
    }

    private static void bestPosting() {
        BackPages x = sees();
        posting(x, 0, NONE, NONE, NONE);
        posting(x, 7, NONE, NONE, NONE);
        posting(x, 8, 24, 7, 8);
        posting(x, 10, 24, 7, 8);
        posting(x, 11, 28, 17, 11);
        posting(x, 999, 28, 17, 11);
        check.due("n 1000", x.posting(1000, 0), OUTSIDE);
        check.due("n -1", x.posting(-1, 0), OUTSIDE);
        check.due("what 3", x.posting(8, 3), OUTSIDE);
        check.due("what -1", x.posting(8, -1), OUTSIDE);
        x.asked(3, 0);
        posting(x, 11, 20, 14, 11);
        x.asked(2, 0);
        posting(x, 11, 16, 4, 8);
        posting(Check.of("see a b;mark b 1;asked a 3;"), 2, 1, 3, 2);
    }

    private static void likePostings() {
        // p 2 sees wide (3 lines), q 3 and r 4 see twin (2 lines); each is asked for 7 times
        BackPages x = Check.of("mark wide/a 1;mark wide/b 2;mark twin/a 3;see p wide;see q twin;see r twin;"
                + "asked p 7;asked q 7;asked r 7;");
        check.due("plain", x.count(4), 8);
        posting(x, 8, 0, 0, 8);
        posting(x, 9, 8, 7, 9);
        posting(x, 10, 24, 14, 10);
        posting(x, 12, 28, 21, 12);
        x.asked(3, 0);
        x.asked(4, 0);
        posting(x, 9, 0, 0, 8);
        posting(x, 10, 4, 7, 10);
        x.asked(4, 7);
        posting(x, 10, 16, 7, 9);
    }

    private static void tenAtMost() {
        BackPages x = Check.of("mark a 1;asked b 1;asked c 1;asked d 1;asked e 1;asked f 1;asked g 1;asked h 1;asked i 1;"
                + "asked j 1;asked k 1;asked l 1;asked m 1;");
        for (int h = 1; h <= 12; h++) {
            check.due("join " + h, x.join(0, h), 1);
            x.asked(h, h == 12 ? 99 : 5);
        }
        posting(x, 13, 0x7fe, 50, 13);
        check.due("others can be posted", x.posted(0x1800), 13);
        x.add(2, NONE, 9, 9, false);
        posting(x, 99, 0xffa, 50, 14);
    }

    private static void fit(BackPages x, int n, int loss, String row) {
        check.due("fit loss in " + n, x.fit(n, NONE), loss);
        StringBuilder got = new StringBuilder();
        for (int h = 0; h < x.count(0); h++) {
            got.append(x.fit(n, h));
        }
        check.due("fit row in " + n, got.toString(), row);
    }

    private static void fits() {
        BackPages x = Check.of("mark a/s 1;mark a/t 2;asked a 4;mark b 5;mark c/u 1;");
        fit(x, 200, 0, "000");
        fit(x, 6, 0, "000");
        fit(x, 5, 1, "001");
        fit(x, 4, 10, "100");
        fit(x, 3, 11, "101");
        fit(x, 2, 30, "102");
        fit(x, 1, 50, "122");
        fit(x, 0, 140, "222");
        check.due("n 201", x.fit(201, NONE), OUTSIDE);
        check.due("n -1", x.fit(-1, 0), OUTSIDE);
        check.due("head 3", x.fit(5, 3), UNKNOWN);
        check.due("head -2", x.fit(-1, -2), UNKNOWN);
    }

    private static void likeFits() {
        fit(Check.of("mark a 1;mark b 2;mark c 3;"), 2, 20, "002");
        fit(Check.of("mark a 1;mark b 2;mark c 3;"), 1, 40, "022");
        // a has two lines: without it there are fewer, and that counts ahead of the row
        BackPages x = Check.of("mark a 10-12;mark a 20-22;mark a 30-32;mark a 40-42;mark a 50;mark b 1;mark c 1;");
        check.due("a's lines", x.head(0, 6), 2);
        fit(x, 3, 20, "200");
        fit(x, 2, 20, "200");
        fit(x, 1, 40, "202");
    }

    private static void fitOfOddHeads() {
        // nothing is printed of d; folded runs come together: "a, *1-5"
        BackPages x = Check.of("mark a/s 1-2;mark a/t 4-5;mark a 3 main;see a b;also a b;see b a;asked d 9;asked a 1;");
        check.due("lines", x.count(4), 6);
        fit(x, 6, 0, "000");
        fit(x, 5, 4, "100");
        fit(x, 4, 4, "100");
        fit(x, 3, 24, "120");
        fit(x, 2, 40, "200");
        check.due("a sub without marks is not folded", Check.of("mark a/s 1;").fit(1, NONE), 1);
        BackPages y = Check.of("mark a/s 1;mark a 3;mark a 5;");
        y.drop(0);
        fit(y, 0, 20, "2");
    }
}
