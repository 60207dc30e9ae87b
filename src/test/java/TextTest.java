/** Promises 1 to 12: a new object, the text and its faults, heads, marks, runs. */
public final class TextTest {
    private static final Check check = new Check();
    private static final int NONE = BackPages.NONE, UNKNOWN = BackPages.UNKNOWN, OUTSIDE = BackPages.OUTSIDE;
    private static final int FULL = BackPages.FULL;

    public static void main(String[] args) {
        newObject();
        feed();
        reading();
        faultsOfKindOne();
        faultsOfNumbers();
        faultsOfWords();
        faultsOfRoom();
        faultsTold();
        faultsLeaveAll();
        countsAndHeads();
        names();
        marks();
        addAndDrop();
        asked();
        runs();
        check.end();
    }

    private static void newObject() {
        BackPages x = new BackPages();
        for (int what = 0; what <= 6; what++) {
            check.due("new count " + what, x.count(what), 0);
        }
        check.due("new fault", x.fault(), NONE);
        check.due("new print", x.print(0), NONE);
        check.due("new order", x.order(0), 0);
        check.due("new width", x.width(30), 30);
        check.due("new at", x.at(0), NONE);
        check.due("new head", x.head(0, 0), UNKNOWN);
        check.due("new stale", x.stale(0), BackPages.NOT);
        check.due("new goBack", x.goBack(1), BackPages.NOT);
        check.due("new trouble", x.trouble(0, 0), 0);
        check.due("new posted", x.posted(0), 0);
        check.due("new posting", x.posting(0, 0), 0);
        check.due("new fit", x.fit(0, NONE), 0);
        check.due("new story", x.story(0, NONE), 0);
        check.due("new read", x.read(), 0);
    }

    private static void feed() {
        BackPages x = new BackPages();
        check.due("feed 0", x.feed(0, 1), OUTSIDE);
        check.due("feed 9", x.feed(9, 1), OUTSIDE);
        check.due("feed -1", x.feed(-1, 1), OUTSIDE);
        check.due("feed 3 of 8", x.feed(3, 0x6162636473656520L), 3);
        check.due("feed 8", x.feed(8, 0x6120623b20202020L), 11);
        check.due("read see a b", x.read(), -11);
        // of "abcdsee " the three lowest are "ee "
        check.due("fault", x.fault(), 0);
        for (int i = 0; i < 74; i++) {
            x.feed(8, 0x2020202020202020L);
        }
        check.due("592 bytes", x.count(2), 592);
        check.due("to 599", x.feed(7, 0x20202020202020L), 599);
        check.due("two more", x.feed(2, 0x2020), FULL);
        check.due("still 599", x.count(2), 599);
        check.due("to 600", x.feed(1, 0x20), 600);
        check.due("601", x.feed(1, 0x20), FULL);
        check.due("9 of a full one", x.feed(9, 0), OUTSIDE);
        check.due("blanks alone", x.read(), 0);
        check.due("no fault", x.fault(), NONE);
        check.due("empty then", x.count(2), 0);
        check.due("high bytes of a long are not taken", x.feed(1, -200L), 1);
    }

    private static void reading() {
        BackPages x = Check.of("see b a;mark c/x 5;also b d;asked e 0;mark c/w 7-9main;mark a_b1 ;");
        check.due("heads in all clauses", x.count(0), 6);
        String[] due = {"b", "a", "c", "d", "e", "a_b"};
        for (int h = 0; h < due.length; h++) {
            check.due("head " + h, Check.name(x, h, NONE), due[h]);
        }
        check.due("sub 0", Check.name(x, 2, 0), "x");
        check.due("sub 1", Check.name(x, 2, 1), "w");
        check.due("marks", Check.marks(x), "2/0:5-5 2/1:*7-9 5:1-1");
        check.due("see", x.head(0, 2), 1);
        check.due("also", x.head(0, 3), 8);

        BackPages tight = Check.of("mark a1-2main;mark b/c3 ;  asked a7;  mark  d / e  4 - 5  main ; ");
        check.due("tight", Check.marks(tight), "0:*1-2 1/0:3-3 2/0:*4-5");
        check.due("tight asked", tight.head(0, 4), 7);

        BackPages words = Check.of("mark mark 1 main;see see also;also also main;asked asked 5;mark main/main 2 main;");
        check.due("clause words as heads", words.count(0), 5);
        check.due("their marks", Check.marks(words), "0:*1-1 3/0:*2-2");

        BackPages zeros = Check.of("mark a 05-09;mark abcdefghijkl 1-99;asked a 00;");
        check.due("two figures", Check.marks(zeros), "0:5-9 1:1-99");
        check.due("twelve bytes", zeros.name(1, NONE, NONE), 12);

        check.due("the same again", x.read(), 0);
        check.due("an empty text: no heads", x.count(0), 0);
        check.due("and no marks", x.count(1), 0);
    }

    private static void faulty(String text, int number, int place) {
        BackPages x = new BackPages();
        Check.feed(x, text);
        check.due("read of " + text, x.read(), -10 - number);
        check.due("fault of " + text, x.fault(), place);
        check.due("text left of " + text, x.count(2), 0);
    }

    private static void faultsOfKindOne() {
        faulty(";", 1, 0);
        faulty("  ;", 1, 2);
        faulty("5", 1, 0);
        faulty("marks a 1;", 1, 0);
        faulty("park a 1;", 1, 0);
        faulty("marc a 1;", 1, 0);
        faulty("mark a 1; _ b 1;", 1, 10);
        faulty("mark", 1, 4);
        faulty("mark   ", 1, 7);
        faulty("mark ;", 1, 5);
        faulty("mark 555 1;", 1, 5);
        faulty("mark Ab 1;", 1, 5);
        faulty("mark aB 1;", 1, 6);
        faulty("mark a b 1;", 1, 7);
        faulty("mark a/ 1;", 1, 8);
        faulty("mark a/b/c 1;", 1, 8);
        faulty("mark a -1;", 1, 7);
        faulty("mark a 1", 1, 8);
        faulty("mark a 1-;", 1, 9);
        faulty("mark a 1 2;", 1, 9);
        faulty("mark a 1 222;", 1, 9);
        faulty("mark a 1 mai;", 1, 9);
        faulty("mark a 1 main main;", 1, 14);
        faulty("mark a 1 main 5;", 1, 14);
        faulty("mark a 1;;", 1, 9);
        faulty("mark a\t1;", 1, 6);
        faulty("mark a 1;\n", 1, 9);
        faulty("mark a 1;\0", 1, 9);
        faulty("mark \u00e1 1;", 1, 5);
        faulty("see a;", 1, 5);
        faulty("see a b c;", 1, 8);
        faulty("see a b 5;", 1, 8);
        faulty("see a/b c;", 1, 5);
        faulty("see a b", 1, 7);
        faulty("also a;", 1, 6);
        faulty("asked a b;", 1, 8);
        faulty("asked a;", 1, 7);
        faulty("asked a 5 6;", 1, 10);
        faulty("asked a 5 main;", 1, 10);
    }

    private static void faultsOfNumbers() {
        faulty("mark a 0;", 2, 7);
        faulty("mark a 00;", 2, 7);
        faulty("mark a 005;", 2, 7);
        faulty("mark a 100;", 2, 7);
        faulty("mark a 1000000000000;", 2, 7);
        faulty("mark a 5 - 5;", 2, 11);
        faulty("mark a 5-4;", 2, 9);
        faulty("mark a 5-0;", 2, 9);
        faulty("mark a 5-006;", 2, 9);
        faulty("mark a 99-99;", 2, 10);
        faulty("mark a 5-100;", 2, 9);
        faulty("mark a 5-4", 2, 9);
        faulty("asked a 100;", 2, 8);
        faulty("asked a 000;", 2, 8);
    }

    private static void faultsOfWords() {
        faulty("mark _a 1;", 3, 5);
        faulty("mark a_ 1;", 3, 5);
        faulty("mark a__b 1;", 3, 5);
        faulty("mark _ 1;", 3, 5);
        faulty("mark abcdefghijklm 1;", 3, 5);
        faulty("mark a/_b 1;", 3, 7);
        faulty("mark a/ b_ 1;", 3, 8);
        faulty("mark a/b__c 1;", 3, 7);
        faulty("mark a/abcdefghijklm 1;", 3, 7);
        faulty("see a b_;", 3, 6);
        faulty("also _a b;", 3, 5);
        faulty("asked a_ 5;", 3, 6);
        faulty("mark a_ X", 3, 5);
    }

    private static String marksOf(int heads) {
        StringBuilder text = new StringBuilder();
        for (int h = 0; h < heads; h++) {
            text.append("mark ").append((char) ('a' + h)).append(" 1;");
        }
        return text.toString();
    }

    private static void faultsOfRoom() {
        String sixteen = marksOf(16);
        check.due("sixteen heads", Check.of(sixteen).count(0), 16);
        faulty(sixteen + "mark q 1;", 4, sixteen.length() + 5);
        faulty(sixteen + "see a q;", 4, sixteen.length() + 6);
        faulty(sixteen + "asked q 5;", 4, sixteen.length() + 6);
        faulty(sixteen + "mark q_ 1;", 3, sixteen.length() + 5);
        check.due("an old one is none more", Check.of(sixteen + "mark p 2;").count(0), 16);
        String six = "mark a/a1;mark a/b1;mark a/c1;mark a/d1;mark a/e1;mark a/f1;";
        check.due("six subs", Check.of(six + "mark a/f 2;mark b/g 3;").head(0, 0), 6);
        faulty(six + "mark a/g 1;", 4, six.length() + 7);
        faulty(six + "mark a/g_ 1;", 3, six.length() + 7);
        String sixty = "mark a1;".repeat(60);
        check.due("sixty marks", Check.of(sixty + "asked a 5;see a b;").count(1), 60);
        faulty(sixty + " mark a 1;", 5, sixty.length() + 1);
        faulty(sixty + "mark _;", 5, sixty.length());
        faulty(sixty + "marc a 1;", 1, sixty.length());
        StringBuilder sees = new StringBuilder();
        StringBuilder alsos = new StringBuilder();
        for (int i = 0; i < 8; i++) {
            sees.append("see ").append((char) ('a' + i)).append(" z;");
            alsos.append("also ").append((char) ('a' + i)).append(" z;");
        }
        check.due("eight and eight", Check.of(sees.toString() + alsos).count(0), 9);
        faulty(sees + "also a z;see i z;", 5, sees.length() + 9);
        faulty(alsos + "see a z;also a z;", 5, alsos.length() + 8);
    }

    private static void faultsTold() {
        faulty("see a b;see a c;", 6, 12);
        faulty("see a b;see a b;", 6, 12);
        faulty("asked a 0;asked a 5;", 6, 16);
        faulty("asked a 5;asked  a;", 6, 17);
        faulty("asked a 5;asked b 5;asked a 6;", 6, 26);
        faulty("see a a;", 6, 6);
        faulty("also abc  abc;", 6, 10);
        faulty("also a b;also a  b;", 6, 17);
        faulty("mark a 1;see a  a", 6, 16);
        BackPages x = Check.of("also a b;also b a;also a c;see a b;see b a;");
        check.due("unlike ones", x.head(0, 3), 6);
        check.due("and back", x.head(1, 3), 1);
    }

    private static void faultsLeaveAll() {
        BackPages x = Check.of("mark a 5;see b a;");
        Check.feed(x, "mark c 7;mark d 0;");
        check.due("a fault", x.read(), -12);
        check.due("its place", x.fault(), 16);
        check.due("heads as they were", x.count(0), 2);
        check.due("marks as they were", Check.marks(x), "0:5-5");
        check.due("see as it was", x.head(1, 2), 0);
        check.due("names as they were", Check.name(x, 0, NONE), "a");
        Check.feed(x, "mark q 1;");
        check.due("a good one", x.read(), 1);
        check.due("no fault then", x.fault(), NONE);
        check.due("all new", Check.marks(x), "0:1-1");
        check.due("its head", Check.name(x, 0, NONE), "q");
        check.due("no see", x.head(0, 2), NONE);
    }

    private static void countsAndHeads() {
        BackPages x = Check.of("mark a 5;mark a 7;mark a/b 1-3;see c a;also a c;also a d;asked a 9;");
        check.due("heads", x.count(0), 3);
        check.due("marks", x.count(1), 3);
        check.due("filled", x.count(6), 1);
        // a, 5, 7 /   b, 1-3 /   see also c, d / c, see a
        check.due("lines", x.count(4), 4);
        check.due("bytes", x.count(5), 8 + 9 + 16 + 9);
        check.due("count 7", x.count(7), OUTSIDE);
        check.due("count -1", x.count(-1), OUTSIDE);
        int[] due = {1, 2, NONE, 6, 9, 1, 3};
        int[] dueOfSee = {0, 0, 0, 0, 0, 0, 1};
        int[] dueOfNothing = {0, 0, NONE, 0, 0, 0, 0};
        for (int what = 0; what <= 6; what++) {
            check.due("head 0 " + what, x.head(0, what), due[what]);
            check.due("head 1 " + what, x.head(1, what), dueOfSee[what]);
            check.due("head 2 " + what, x.head(2, what), dueOfNothing[what]);
        }
        check.due("head 3", x.head(3, 0), UNKNOWN);
        check.due("head -1", x.head(-1, 0), UNKNOWN);
        check.due("head 3 9", x.head(3, 9), UNKNOWN);
        check.due("head 0 7", x.head(0, 7), OUTSIDE);
        check.due("head 0 -1", x.head(0, -1), OUTSIDE);
        x.saw(1, 1);
        check.due("pairs", x.count(3), 1);
    }

    private static void names() {
        BackPages x = Check.of("mark a_z/mn 5;");
        check.due("length", x.name(0, NONE, NONE), 3);
        check.due("byte 0", x.name(0, NONE, 0), 'a');
        check.due("byte 1", x.name(0, NONE, 1), '_');
        check.due("byte 2", x.name(0, NONE, 2), 'z');
        check.due("byte 3", x.name(0, NONE, 3), NONE);
        check.due("byte 12", x.name(0, NONE, 12), NONE);
        check.due("byte 2147483647", x.name(0, NONE, Integer.MAX_VALUE), NONE);
        check.due("byte -2", x.name(0, NONE, -2), NONE);
        check.due("sub's length", x.name(0, 0, NONE), 2);
        check.due("sub's byte", x.name(0, 0, 1), 'n');
        check.due("sub 1", x.name(0, 1, 0), UNKNOWN);
        check.due("sub -2", x.name(0, -2, 0), UNKNOWN);
        check.due("head 1", x.name(1, NONE, 0), UNKNOWN);
        check.due("head -1", x.name(-1, NONE, 0), UNKNOWN);
    }

    private static void marks() {
        BackPages x = Check.of("mark a 5;mark b/c 7-9 main;");
        int[] first = {0, NONE, 5, 5, 0};
        int[] second = {1, 0, 7, 9, 1};
        for (int what = 0; what <= 4; what++) {
            check.due("mark 0 " + what, x.mark(0, what), first[what]);
            check.due("mark 1 " + what, x.mark(1, what), second[what]);
        }
        check.due("mark 2", x.mark(2, 0), UNKNOWN);
        check.due("mark -1", x.mark(-1, 0), UNKNOWN);
        check.due("mark 2 9", x.mark(2, 9), UNKNOWN);
        check.due("mark 0 5", x.mark(0, 5), OUTSIDE);
        check.due("mark 0 -1", x.mark(0, -1), OUTSIDE);
    }

    private static void addAndDrop() {
        BackPages x = Check.of("mark a/s 5;see b a;");
        check.due("add own", x.add(1, NONE, 9, 9, false), 1);
        check.due("add sub", x.add(0, 0, 1, 99, true), 2);
        check.due("marks", Check.marks(x), "0/0:5-5 1:9-9 0/0:*1-99");
        check.due("printed", Check.printed(x), "a\n  s, *1-99\nb, 9\n  see a\n");
        check.due("add to head 2", x.add(2, NONE, 1, 1, false), UNKNOWN);
        check.due("add to sub 1", x.add(0, 1, 1, 1, false), UNKNOWN);
        check.due("add to sub -2", x.add(0, -2, 1, 1, false), UNKNOWN);
        check.due("UNKNOWN ahead", x.add(9, 0, 0, 0, false), UNKNOWN);
        check.due("page 0", x.add(0, NONE, 0, 5, false), OUTSIDE);
        check.due("page 100", x.add(0, NONE, 5, 100, false), OUTSIDE);
        check.due("q below p", x.add(0, NONE, 5, 4, false), OUTSIDE);
        check.due("drop 3", x.drop(3), UNKNOWN);
        check.due("drop -1", x.drop(-1), UNKNOWN);
        check.due("drop 1", x.drop(1), 2);
        check.due("later ones", Check.marks(x), "0/0:5-5 0/0:*1-99");
        check.due("printed then", Check.printed(x), "a\n  s, *1-99\nb, see a\n");
        check.due("drop 1 again", x.drop(1), 1);
        check.due("drop 0", x.drop(0), 0);
        check.due("drop of none", x.drop(0), UNKNOWN);
        check.due("the sub stays", x.head(0, 0), 1);
        for (int k = 0; k < 60; k++) {
            check.due("add " + k, x.add(0, NONE, 1, 1, false), k);
        }
        check.due("add 61st", x.add(0, NONE, 1, 1, false), FULL);
        check.due("OUTSIDE ahead", x.add(0, NONE, 0, 1, false), OUTSIDE);
    }

    private static void asked() {
        BackPages x = Check.of("asked a 9;mark b 1;");
        check.due("asked 5", x.asked(0, 5), 9);
        check.due("asked 99", x.asked(0, 99), 5);
        check.due("asked 0", x.asked(0, 0), 99);
        check.due("untold", x.asked(1, 3), 0);
        check.due("asked 100", x.asked(1, 100), OUTSIDE);
        check.due("asked -1", x.asked(1, -1), OUTSIDE);
        check.due("asked of 2", x.asked(2, 100), UNKNOWN);
        check.due("still", x.head(1, 4), 3);
    }

    private static void runs() {
        BackPages x = Check.of("mark a 20;mark a 5-7;mark a 8 main;mark a 3;mark a 30-40 main;mark a 35;"
                + "mark a 2;mark a 10-12;mark a 11 main;mark a/b 4;mark a/b 9 main;mark a/c 99;mark a/c 98;");
        check.due("own", Check.runs(x, 0, NONE), "2-3 *5-8 *10-12 20-20 *30-40");
        check.due("sub 0", Check.runs(x, 0, 0), "4-4 *9-9");
        check.due("sub 1", Check.runs(x, 0, 1), "98-99");
        check.due("how many", x.run(0, NONE, NONE, 2), 5);
        check.due("run 5", x.run(0, NONE, 5, 0), NONE);
        check.due("run -2", x.run(0, NONE, -2, 0), NONE);
        check.due("what 3", x.run(0, NONE, 0, 3), OUTSIDE);
        check.due("what -1", x.run(0, NONE, 0, -1), OUTSIDE);
        check.due("what 3 of how many", x.run(0, NONE, NONE, 3), OUTSIDE);
        check.due("what 3 of run 9", x.run(0, NONE, 9, 3), OUTSIDE);
        check.due("sub 2", x.run(0, 2, 0, 3), UNKNOWN);
        check.due("sub -2", x.run(0, -2, 0, 0), UNKNOWN);
        check.due("head 1", x.run(1, NONE, 0, 0), UNKNOWN);
        x.add(0, NONE, 4, 4, false);
        check.due("a gap filled", Check.runs(x, 0, NONE), "*2-8 *10-12 20-20 *30-40");
        x.add(0, NONE, 1, 99, false);
        check.due("all", Check.runs(x, 0, NONE), "*1-99");
        check.due("none", Check.of("see a b;").run(0, NONE, NONE, 0), 0);
    }
}
