/** Promises 13 to 17: the order, width, what is printed. */
public final class PrintTest {
    private static final Check check = new Check();
    private static final int NONE = BackPages.NONE, UNKNOWN = BackPages.UNKNOWN, OUTSIDE = BackPages.OUTSIDE;

    public static void main(String[] args) {
        ordersOfHeads();
        ordersOfSubs();
        widths();
        rowsOfAHead();
        linesThatBreak();
        printedAnew();
        check.end();
    }

    private static String order(BackPages x) {
        StringBuilder out = new StringBuilder();
        for (int i = 0; x.at(i) != NONE; i++) {
            out.append(Check.name(x, x.at(i), NONE)).append(' ');
        }
        return out.toString().trim();
    }

    private static void ordersOfHeads() {
        BackPages x = Check.of("mark newark 1;mark new_york 1;mark new 1;mark newyork 1;mark news 1;mark new_z 1;");
        check.due("letter by letter", order(x), "new newark news new_york newyork new_z");
        check.due("to word by word", x.order(1), 0);
        check.due("word by word", order(x), "new new_york new_z newark news newyork");
        check.due("order 2", x.order(2), OUTSIDE);
        check.due("order -1", x.order(-1), OUTSIDE);
        check.due("back", x.order(0), 1);
        BackPages turned = Check.of("mark newyork 1;mark new_york 1;mark n_ewyork 1;");
        check.due("alike: the lesser number", order(turned), "newyork new_york n_ewyork");
        check.due("at -1", x.at(-1), NONE);
        check.due("at 6", x.at(6), NONE);
        check.due("heads that are not printed, too", order(Check.of("mark b 1;asked a 1;")), "a b");
    }

    private static void ordersOfSubs() {
        BackPages x = Check.of("mark h/b_z 1;mark h/ba 2;mark h/b 3;mark h/a 4;mark i 1;");
        String text = "h\n  a, 4\n  b, 3\n  ba, 2\n  b_z, 1\ni, 1\n";
        check.due("subs printed", Check.printed(x), text);
        int[] letters = {3, 2, 1, 0, NONE};
        int[] words = {3, 2, 0, 1, NONE};
        for (int i = 0; i < 5; i++) {
            check.due("subAt " + i, x.subAt(0, i), letters[i]);
        }
        x.order(1);
        for (int i = 0; i < 5; i++) {
            check.due("subAt by words " + i, x.subAt(0, i), words[i]);
        }
        check.due("printed by words", Check.printed(x), "h\n  a, 4\n  b, 3\n  b_z, 1\n  ba, 2\ni, 1\n");
        check.due("subAt -1", x.subAt(0, -1), NONE);
        check.due("subAt of none", x.subAt(1, 0), NONE);
        check.due("subAt of 2", x.subAt(2, 0), UNKNOWN);
        check.due("subAt of -1", x.subAt(-1, -1), UNKNOWN);
        x.drop(3);
        check.due("a sub without marks counts", x.subAt(0, 0), 3);
        check.due("but is not printed", Check.printed(x), "h\n  b, 3\n  b_z, 1\n  ba, 2\ni, 1\n");
    }

    private static void widths() {
        BackPages x = new BackPages();
        check.due("width 19", x.width(19), OUTSIDE);
        check.due("width 81", x.width(81), OUTSIDE);
        check.due("width 20", x.width(20), 30);
        check.due("width 80", x.width(80), 20);
        check.due("width 30", x.width(30), 80);
    }

    private static void rowsOfAHead() {
        check.due("see alone", Check.printed(Check.of("see a b;")), "a, see b\n");
        check.due("also alone", Check.printed(Check.of("also a b;")), "a\n  see also b\n");
        check.due("see and also", Check.printed(Check.of("see a b;also a c;")), "a, see b\n  see also c\n");
        check.due("nothing", Check.printed(Check.of("asked a 5;")), "");
        check.due("own", Check.printed(Check.of("mark a 5;mark a 7-9 main;")), "a, 5, *7-9\n");
        check.due("a sub alone", Check.printed(Check.of("mark a/s 5 main;")), "a\n  s, *5\n");
        BackPages all = Check.of("see a z;also a y;also a b;mark a/s 5;mark a 3;mark z 1;mark a/r 98-99;");
        check.due("all of them", Check.printed(all),
                "a, 3\n  r, 98-99\n  s, 5\n  see z\n  see also b, y\nz, 1\n");
        check.due("its lines", all.head(0, 6), 5);
        check.due("lines in all", all.count(4), 6);
        check.due("bytes in all", all.count(5), Check.printed(all).length());
        check.due("byte -1", all.print(-1), NONE);
        check.due("the last byte", all.print(all.count(5) - 1), 10);
        check.due("behind it", all.print(all.count(5)), NONE);
    }

    private static void linesThatBreak() {
        BackPages x = Check.of("mark abcdefghijkl 10-12;mark abcdefghijkl 20-22;mark abcdefghijkl 30;mark abcdefghijkl 40;");
        check.due("30 bytes just fit", Check.printed(x), "abcdefghijkl, 10-12, 20-22, 30,\n    40\n");
        x.add(0, NONE, 31, 31, false);
        check.due("31 do not", Check.printed(x), "abcdefghijkl, 10-12, 20-22,\n    30-31, 40\n");
        check.due("its lines", x.head(0, 6), 2);
        BackPages byOne = Check.of("mark abcdefghijk 10-12;mark abcdefghijk 20-22;mark abcdefghijk 30-32;");
        byOne.width(31);
        check.due("32 in 31", Check.printed(byOne), "abcdefghijk, 10-12, 20-22,\n    30-32\n");
        byOne.width(32);
        check.due("32 in 32", Check.printed(byOne), "abcdefghijk, 10-12, 20-22, 30-32\n");
        x.width(20);
        check.due("narrow", Check.printed(x), "abcdefghijkl, 10-12,\n    20-22, 30-31, 40\n");
        BackPages sees = Check.of("see abcdefghijkl bcdefghijklm;also x abcdefghijkl;also x bcdefghijklm;");
        sees.width(20);
        check.due("one unit is never broken", Check.printed(sees), "abcdefghijkl, see bcdefghijklm\n"
                + "x\n  see also abcdefghijkl,\n    bcdefghijklm\n");
        BackPages subs = Check.of("mark a/abcdefghijkl 10-12 main;mark a/abcdefghijkl 20-22 main;mark a/abcdefghijkl 30;");
        subs.width(20);
        check.due("a sub's", Check.printed(subs), "a\n  abcdefghijkl,\n    *10-12, *20-22,\n    30\n");
    }

    private static void printedAnew() {
        BackPages x = Check.of("mark a 5;mark b 7;see c a;");
        check.due("at first", Check.printed(x), "a, 5\nb, 7\nc, see a\n");
        x.add(2, NONE, 9, 9, false);
        check.due("after add", Check.printed(x), "a, 5\nb, 7\nc, 9\n  see a\n");
        x.drop(0);
        check.due("after drop", Check.printed(x), "b, 7\nc, 9\n  see a\n");
        x.keep(0);
        x.putIn(8, 2);
        check.due("after putIn", Check.printed(x), "b, 7\nc, 11\n  see a\n");
        x.takeOut(7, 8);
        check.due("after takeOut", Check.printed(x), "c, 9\n  see a\n");
        x.goBack(0);
        check.due("after goBack", Check.printed(x), "b, 7\nc, 9\n  see a\n");
        x.join(1, 2);
        check.due("after join", Check.printed(x), "b, 7, 9\nc, see b\n");
        Check.feed(x, "mark q 0;");
        x.read();
        check.due("after a fault", Check.printed(x), "b, 7, 9\nc, see b\n");
        Check.feed(x, "mark q 1;");
        x.read();
        check.due("after read", Check.printed(x), "q, 1\n");
    }
}
