/** The text, its faults and promises 1 to 5: each sentence that names a boundary, in the document's order. */
public final class TextEdgesTest {
    private static final Check check = new Check();
    private static final int NONE = BackPages.NONE, UNKNOWN = BackPages.UNKNOWN, OUTSIDE = BackPages.OUTSIDE;
    private static final int NOT = BackPages.NOT, FULL = BackPages.FULL;
    private static final String TWELVE = "abcdefghijkl", THIRTEEN = TWELVE + "m";

    public static void main(String[] args) {
        calls();
        refusals();
        pages();
        bytesOfWords();
        bytesOfNumbers();
        bytesOfClauses();
        heads();
        lengthsOfWords();
        linesInWords();
        subs();
        marks();
        oneSeeAndASet();
        seesAndAlsos();
        timesAsked();
        bytesOfText();
        numbersAsTheyCome();
        figures();
        blanks();
        sideBySide();
        firstFault();
        ends();
        leastFault();
        wordsThatCannotStand();
        numbersOutside();
        lastPages();
        noSuchWords();
        seventeenthAndSeventh();
        oneTooMany();
        toldTwice();
        itself();
        alsoTold();
        emptyText();
        newObject();
        feeding();
        fullText();
        readEmpties();
        readAgain();
        readLeavesAll();
        faultOfTheLatest();
        counts();
        check.end();
    }

    /** A new object that reads the text: what it answers, the fault's place. */
    private static BackPages reads(String text, int answer, int place) {
        BackPages x = new BackPages();
        Check.feed(x, text);
        check.due("read of '" + text + "'", x.read(), answer);
        check.due("fault of '" + text + "'", x.fault(), place);
        check.due("bytes left of '" + text + "'", x.count(2), 0);
        return x;
    }

    private static BackPages fine(String text, int heads) {
        return reads(text, heads, NONE);
    }

    private static void faulty(String text, int number, int place) {
        BackPages x = reads(text, -10 - number, place);
        check.due("heads of '" + text + "'", x.count(0), 0);
        check.due("marks of '" + text + "'", x.count(1), 0);
    }

    private static boolean isLetter(int b) {
        return b >= 97 && b <= 122;
    }

    private static boolean isFigure(int b) {
        return b >= 48 && b <= 57;
    }

    // ---- ahead of the promises

    private static void calls() {
        check.sentence("An object is used for at most 512 calls after it has been made");
        BackPages x = new BackPages();
        for (int i = 1; i <= 511; i++) {
            check.due("call " + i, x.feed(1, ' '), i);
        }
        check.due("call 512", x.read(), 0);
    }

    private static void refusals() {
        check.sentence("NONE is -1");
        check.due("NONE", NONE, -1);
        check.sentence("They are far below all that is counted: -1001 and on");
        check.due("UNKNOWN", UNKNOWN, -1001);
        check.due("OUTSIDE", OUTSIDE, -1002);
        check.due("NOT", NOT, -1003);
        check.due("FULL", FULL, -1004);
    }

    private static void pages() {
        check.sentence("PAGES are 1 to 99");
        check.due("1, 99", Check.marks(fine("mark a 1;mark a 99;mark a 1-99;mark a 1-2;mark a 98-99;", 1)),
                "0:1-1 0:99-99 0:1-99 0:1-2 0:98-99");
        faulty("mark a 0;", 2, 7);
        faulty("mark a 100;", 2, 7);
        faulty("mark a 0-1;", 2, 7);
        faulty("mark a 99-100;", 2, 10);
    }

    private static void bytesOfWords() {
        check.sentence("WORDS are letters a .. z and '_' (95) side by side");
        for (int b = 0; b < 256; b++) {
            char c = (char) b;
            String alone = "mark " + c + " 1;";
            String within = "mark a" + c + "c 1;";
            String second = "see a " + c + ";";
            if (isLetter(b)) {
                check.due("its byte", fine(alone, 1).name(0, NONE, 0), b);
                check.due("its byte", fine(within, 1).name(0, NONE, 1), b);
            } else if (b == '_') {
                faulty(alone, 3, 5);
                check.due("its byte", fine(within, 1).name(0, NONE, 1), b);
                faulty(second, 3, 6);
            } else if (b == ' ') {
                faulty(alone, 1, 7);
                faulty(within, 1, 7);
                faulty(second, 1, 7);
            } else {
                faulty(alone, 1, 5);
                faulty(second, 1, 6);
                if (b == '/') {
                    check.due("a sub", fine(within, 1).head(0, 0), 1);
                } else if (b == '0') {
                    faulty(within, 2, 6);
                } else {
                    faulty(within, 1, isFigure(b) ? 7 : 6);
                }
            }
        }
    }

    private static void bytesOfNumbers() {
        check.sentence("NUMBERS have one or two figures");
        for (int b = 0; b < 256; b++) {
            char c = (char) b;
            String behind = "mark a 5" + c + ";";
            String last = "mark a 5-" + c + ";";
            String times = "asked a " + c + ";";
            if (isFigure(b)) {
                check.due("page", fine(behind, 1).mark(0, 2), 50 + b - '0');
                check.due("times", fine(times, 1).head(0, 4), b - '0');
                if (b > '5') {
                    check.due("last page", fine(last, 1).mark(0, 3), b - '0');
                } else {
                    faulty(last, 2, 9);
                }
            } else if (b == ' ') {
                fine(behind, 1);
                faulty(last, 1, 10);
                faulty(times, 1, 9);
            } else {
                faulty(behind, 1, b == '-' || b == ';' ? 9 : 8);
                faulty(last, 1, 9);
                faulty(times, 1, 8);
            }
        }
    }

    private static void bytesOfClauses() {
        check.sentence("clause = 'mark' head ['/' sub] P ['-' Q] ['main'] ';' | 'see' head head ';' | 'also' head head ';'"
                + " | 'asked' head N ';'");
        for (int b = 0; b < 256; b++) {
            char c = (char) b;
            if (b == ' ') {
                fine("" + c, 0);
                fine("mark a 5;" + c, 1);
            } else {
                faulty("" + c, 1, 0);
                faulty("mark a 5;" + c, 1, 9);
            }
            if (b == '_') {
                faulty("see a b" + c, 3, 6);
            } else if (isLetter(b) || b == ' ') {
                faulty("see a b" + c, 1, 8);
            } else if (b != ';') {
                faulty("see a b" + c, 1, 7);
            }
            if (b != ' ' && b != ';') {
                faulty("mark a 5 main " + c + ";", 1, 14);
            }
        }
        for (String word : new String[] {"mark", "see", "also", "asked"}) {
            for (int i = 0; i < word.length(); i++) {
                String other = word.substring(0, i) + 'x' + word.substring(i + 1);
                faulty(other + " a 1;", 1, 0);
                faulty(other + " a b;", 1, 0);
            }
        }
        for (int i = 0; i < 4; i++) {
            faulty("mark a 1 " + "main".substring(0, i) + 'x' + "main".substring(i + 1) + ";", 1, 9);
        }
        for (String word : new String[] {"mar", "marks", "maark", "se", "seen", "als", "alsos", "ask", "aske", "askedd", "main", "Mark"}) {
            faulty(word + " a 1;", 1, 0);
            faulty("mark a 1;" + word + " a b;", 1, 9);
        }
    }

    // ---- how many, how long

    private static String heads(int many) {
        StringBuilder text = new StringBuilder();
        for (int h = 0; h < many; h++) {
            text.append("mark ").append((char) ('a' + h)).append(" 1;");
        }
        return text.toString();
    }

    private static void heads() {
        check.sentence("HEADS (16 at most)");
        String sixteen = heads(16);
        BackPages x = fine(sixteen + "see a p;also p a;asked p 5;mark p 7;", 16);
        check.due("the last one", Check.name(x, 15, NONE), "p");
        check.due("its number by see", x.head(0, 2), 15);
        check.due("its also", x.head(15, 3), 1);
        check.due("head 16", x.head(16, 0), UNKNOWN);
        faulty(heads(17), 4, sixteen.length() + 5);
    }

    private static void lengthsOfWords() {
        check.sentence("HEADS (16 at most) are WORDS of 12 bytes at most");
        String[] ahead = {"mark ", "mark a/", "see ", "see a ", "also ", "also a ", "asked "};
        String[] behind = {" 1;", " 1;", " a;", ";", " a;", ";", " 1;"};
        for (int i = 0; i < ahead.length; i++) {
            boolean two = i == 2 || i == 3 || i == 4 || i == 5;
            fine(ahead[i] + TWELVE + behind[i], two ? 2 : 1);
            fine(ahead[i] + "abcde_ghijkl" + behind[i], two ? 2 : 1);
            faulty(ahead[i] + THIRTEEN + behind[i], 3, ahead[i].length());
            faulty(ahead[i] + "abcde_ghijklm" + behind[i], 3, ahead[i].length());
            faulty(ahead[i] + "a".repeat(500) + behind[i], 3, ahead[i].length());
        }
        check.due("the whole head", Check.name(fine("mark " + TWELVE + " 1;", 1), 0, NONE), TWELVE);
        check.due("the whole sub", Check.name(fine("mark a/" + TWELVE + " 1;", 1), 0, 0), TWELVE);
        check.due("one byte", Check.name(fine("mark a/b 1;", 1), 0, 0), "b");
        fine("mark abcdefghijkl1;mark abcdefghijkm1;", 2);
    }

    private static void linesInWords() {
        check.sentence("'_' neither first nor last in them, nor two side by side");
        fine("mark a_b 1;mark a_b_c 1;mark ab_c/d_e_f 1;", 3);
        for (String word : new String[] {"_a", "a_", "a__b", "_", "__", "_a_", "ab_c__d", "a_b_", "abcdefghijk_", "_bcdefghijkl"}) {
            faulty("mark " + word + " 1;", 3, 5);
            faulty("mark a/" + word + " 1;", 3, 7);
            faulty("see " + word + " a;", 3, 4);
            faulty("also a " + word + ";", 3, 7);
            faulty("asked " + word + " 1;", 3, 6);
        }
    }

    private static void subs() {
        check.sentence("each has SUBS (6 at most), WORDS likewise");
        String six = "mark a/a1;mark a/b1;mark a/c1;mark a/d1;mark a/e1;mark a/f1;";
        BackPages x = fine(six + six.replace("a/", "b/") + "mark a/f 2;", 2);
        check.due("six of a", x.head(0, 0), 6);
        check.due("six of b", x.head(1, 0), 6);
        check.due("the sixth", Check.name(x, 0, 5), "f");
        check.due("its mark", x.mark(12, 1), 5);
        check.due("sub 6", x.name(0, 6, 0), UNKNOWN);
        faulty(six + "mark a/g 1;", 4, six.length() + 7);
    }

    private static void marks() {
        check.sentence("MARKS (60 at most)");
        String sixty = "mark a1;".repeat(60);
        BackPages x = fine(sixty, 1);
        check.due("sixty", x.count(1), 60);
        check.due("the last", x.mark(59, 2), 1);
        check.due("mark 60", x.mark(60, 2), UNKNOWN);
        faulty(sixty + "mark a1;", 5, sixty.length());
    }

    private static void oneSeeAndASet() {
        check.sentence("A HEAD may have one SEE (another HEAD), ALSO (a SET of others)");
        BackPages x = fine("see a b;also a b;also a c;also a d;also a e;also a f;also a g;also a h;also a i;see b a;", 9);
        check.due("its see", x.head(0, 2), 1);
        check.due("eight others", x.head(0, 3), 0x1fe);
        check.due("b's see", x.head(1, 2), 0);
        check.due("b's also", x.head(1, 3), 0);
        check.due("c's see", x.head(2, 2), NONE);
    }

    private static String links(String clause, int many) {
        StringBuilder text = new StringBuilder();
        for (int i = 0; i < many; i++) {
            text.append(clause).append(' ').append((char) ('a' + i)).append(" z;");
        }
        return text.toString();
    }

    private static void seesAndAlsos() {
        check.sentence("8 'see', 8 'also' at most");
        BackPages x = fine(links("see", 8) + links("also", 8), 9);
        check.due("the eighth see", x.head(8, 2), 1);
        check.due("the eighth also", x.head(8, 3), 2);
        fine(links("see", 8), 9);
        fine(links("also", 8), 9);
        faulty(links("see", 9), 5, 64);
        faulty(links("also", 9), 5, 72);
        fine("mark z1;".repeat(60) + links("see", 8) + links("also", 6), 9);
    }

    private static void timesAsked() {
        check.sentence("is ASKED for so often (0 .. 99; 0 untold)");
        check.due("0", fine("asked a 0;", 1).head(0, 4), 0);
        check.due("99", fine("asked a 99;", 1).head(0, 4), 99);
        check.due("untold", fine("mark a 5;", 1).head(0, 4), 0);
        faulty("asked a 100;", 2, 8);
    }

    private static void bytesOfText() {
        check.sentence("THE TEXT (600 bytes at most)");
        fine(" ".repeat(591) + "mark a 5;", 1);
        fine("mark a 5;" + " ".repeat(591), 1);
        faulty(" ".repeat(599) + ";", 1, 599);
        faulty(" ".repeat(592) + "mark a 5", 1, 600);
        faulty("mark " + "a".repeat(595), 3, 5);
        faulty("a".repeat(600), 1, 0);
        faulty("mark a " + "1".repeat(593), 2, 7);
    }

    private static void numbersAsTheyCome() {
        check.sentence("HEADS are numbered as they first come in it (in any clause), SUBS of a HEAD likewise");
        BackPages x = fine("also z y;see x z;asked w 1;mark v/s 1;mark y/t 2;mark v/r 3;mark v/s 4;mark u 5;", 6);
        StringBuilder names = new StringBuilder();
        for (int h = 0; h < 6; h++) {
            names.append(Check.name(x, h, NONE));
        }
        check.due("heads", names.toString(), "zyxwvu");
        check.due("v's subs", Check.name(x, 4, 0) + Check.name(x, 4, 1), "sr");
        check.due("y's sub", Check.name(x, 1, 0), "t");
        check.due("marks", Check.marks(x), "4/0:1-1 1/0:2-2 4/1:3-3 4/0:4-4 5:5-5");
    }

    // ---- numbers and blanks

    private static void figures() {
        check.sentence("NUMBERS have one or two figures");
        check.due("marks", Check.marks(fine("mark a 1;mark a 01;mark a 09-10;mark a 9-99;", 1)), "0:1-1 0:1-1 0:9-10 0:9-99");
        check.due("asked", fine("asked a 07;", 1).head(0, 4), 7);
        faulty("mark a 001;", 2, 7);
        faulty("mark a 1-002;", 2, 9);
        faulty("asked a 007;", 2, 8);
        faulty("mark a 4294967297;", 2, 7);
    }

    private static void blanks() {
        check.sentence("blanks (32) may stand anywhere but within WORDS and NUMBERS");
        check.due("everywhere", Check.marks(fine("   mark   a   /   b   5   -   7   main   ;   ", 1)), "0/0:*5-7");
        check.due("nowhere", Check.marks(fine("mark a/b5-7main;mark c9;", 2)), "0/0:*5-7 1:9-9");
        fine("  see  a  b  ;  also  a  b  ;  asked  a  7  ;  ", 2);
        fine("see a b;also a b;asked a7;", 2);
        faulty("ma rk a 5;", 1, 0);
        faulty("se e a b;", 1, 0);
        faulty("mark a b 5;", 1, 7);
        faulty("mark a/b c 5;", 1, 9);
        faulty("mark a 1 2;", 1, 9);
        faulty("mark a 1-2 3;", 1, 11);
        faulty("mark a 5 ma in;", 1, 9);
        faulty("asked a 1 2;", 1, 10);
        faulty("mark a\t5;", 1, 6);
        faulty("mark a 5;\n", 1, 9);
    }

    private static void sideBySide() {
        check.sentence("two WORDS, two NUMBERS side by side need one");
        faulty("marka 5;", 1, 0);
        faulty("seea b;", 1, 0);
        faulty("see ab;", 1, 6);
        faulty("also ab;", 1, 7);
        check.due("1 and 2 are 12", fine("mark a 12;", 1).mark(0, 2), 12);
        fine("mark a5main;", 1);
    }

    // ---- faults

    private static void firstFault() {
        check.sentence("FAULTS, at the first byte that has one");
        faulty("mark a 0;mark _b 1;x", 2, 7);
        faulty("mark _a 0;", 3, 5);
        faulty("see a a;x", 6, 6);
        faulty("x;mark a 0;", 1, 0);
        faulty("see a b;see a _;", 6, 12);
        faulty("asked a 1;asked a 100;", 6, 16);
        faulty(heads(16) + "see q q;", 4, heads(16).length() + 4);
        faulty("mark a1;".repeat(60) + "mark _ 0", 5, 480);
    }

    private static void ends() {
        check.sentence("(the end at the text's length)");
        String whole = "mark ab/cd 12-34 main;";
        for (int length = 1; length < whole.length(); length++) {
            String part = whole.substring(0, length);
            if (length < 4) {
                faulty(part, 1, 0);
            } else if (length == 15) {
                faulty(part, 2, 14);
            } else if (length >= 18 && length <= 20) {
                faulty(part, 1, 17);
            } else {
                faulty(part, 1, length);
            }
        }
        fine(whole, 1);
        faulty("see", 1, 3);
        faulty("see a", 1, 5);
        faulty("see a b", 1, 7);
        faulty("also a b", 1, 8);
        faulty("asked a", 1, 7);
        faulty("asked a 5", 1, 9);
        faulty("mark a 5;see   ", 1, 15);
        faulty("mark a 5   ", 1, 11);
    }

    private static void leastFault() {
        check.sentence("of these the least");
        faulty("mark 100 5;", 1, 5);
        faulty("mark a/000 5;", 1, 7);
        faulty("mark a 5 100;", 1, 9);
        faulty("see a 100;", 1, 6);
        faulty("mark a 5;100", 1, 9);
        String sixteen = heads(16);
        faulty(sixteen + "mark q_ 1;", 3, sixteen.length() + 5);
        faulty(sixteen + "see a _q;", 3, sixteen.length() + 6);
        faulty(sixteen + "asked " + THIRTEEN + " 1;", 3, sixteen.length() + 6);
        String six = "mark a/a1;mark a/b1;mark a/c1;mark a/d1;mark a/e1;mark a/f1;";
        faulty(six + "mark a/g_ 1;", 3, six.length() + 7);
        String sixty = "mark a1;".repeat(60);
        faulty(sixty + "marc a 1;", 1, 480);
        faulty(sixty + "marks a 1;", 1, 480);
        faulty("mark a 5 _;", 1, 9);
        faulty("_ a 5;", 1, 0);
    }

    private static void wordsThatCannotStand() {
        check.sentence("1 it cannot stand there (a WORD that cannot: at its first byte)");
        faulty("mark a 1 mains;", 1, 9);
        faulty("mark a 1 mai;", 1, 9);
        faulty("mark a 1 main main;", 1, 14);
        faulty("mark a main;", 1, 7);
        faulty("mark a/b/c 1;", 1, 8);
        faulty("mark a/;", 1, 7);
        faulty("mark /b 1;", 1, 5);
        faulty("mark a 1-2-3;", 1, 10);
        faulty("mark a 1 main-2;", 1, 13);
        faulty("see a b main;", 1, 8);
        faulty("see a/b c;", 1, 5);
        faulty("see a b c;", 1, 8);
        faulty("also a 5;", 1, 7);
        faulty("asked a -5;", 1, 8);
        faulty("asked a/b 5;", 1, 7);
        faulty("asked a 5-6;", 1, 9);
        faulty("asked a 5 main;", 1, 10);
        faulty(";", 1, 0);
        faulty("mark a 1;;", 1, 9);
    }

    private static void numbersOutside() {
        check.sentence("2 a NUMBER of three figures or more, or out of its bounds (P 1 .. 99, N 0 .. 99");
        faulty("mark a 00;", 2, 7);
        faulty("mark a 000;", 2, 7);
        faulty("mark a 100;", 2, 7);
        faulty("mark a 99999;", 2, 7);
        faulty("mark a 100", 2, 7);
        faulty("mark a 100x", 2, 7);
        faulty("mark a 5-100;", 2, 9);
        faulty("mark a 5-006;", 2, 9);
        faulty("asked a 000;", 2, 8);
        faulty("asked a 100;", 2, 8);
        fine("asked a 00;", 1);
        fine("mark a 99;asked a 99;", 1);
    }

    private static void lastPages() {
        check.sentence("a Q that is not above its P; at its first");
        check.due("one above", Check.marks(fine("mark a 5-6;mark a 98 - 99;mark a 9-10;", 1)), "0:5-6 0:98-99 0:9-10");
        faulty("mark a 5-5;", 2, 9);
        faulty("mark a 5-4;", 2, 9);
        faulty("mark a 5-0;", 2, 9);
        faulty("mark a 99-99;", 2, 10);
        faulty("mark a 12 - 12;", 2, 12);
        faulty("mark a 12-9 main;", 2, 10);
        faulty("mark a 1-1", 2, 9);
    }

    private static void noSuchWords() {
        check.sentence("3 a head or sub that is no such WORD (at its first byte)");
        faulty("mark  a_ 1;", 3, 6);
        faulty("mark a / b_ 1;", 3, 9);
        faulty("see  a__b c;", 3, 5);
        faulty("see c  _a;", 3, 7);
        faulty("also _a c;", 3, 5);
        faulty("also c " + THIRTEEN + ";", 3, 7);
        faulty("asked a_ 1;", 3, 6);
        faulty("mark a_", 3, 5);
        faulty("mark a_5x", 3, 5);
        faulty("mark a/_", 3, 7);
    }

    private static void seventeenthAndSeventh() {
        check.sentence("4 a seventeenth HEAD, a seventh SUB of a HEAD (at its first byte)");
        String sixteen = heads(16);
        int at = sixteen.length();
        faulty(sixteen + "mark  q 1;", 4, at + 6);
        faulty(sixteen + "mark q/a 1;", 4, at + 5);
        faulty(sixteen + "see q a;", 4, at + 4);
        faulty(sixteen + "see a qq;", 4, at + 6);
        faulty(sixteen + "also qq a;", 4, at + 5);
        faulty(sixteen + "also a q;", 4, at + 7);
        faulty(sixteen + "asked q 5;", 4, at + 6);
        String six = "mark b1;mark a/a1;mark a/b1;mark a/c1;mark a/d1;mark a/e1;mark a/f1;";
        faulty(six + "mark a / g 1;", 4, six.length() + 9);
        faulty(six + "mark a/aa 1;", 4, six.length() + 7);
        check.due("of another head", fine(six + "mark b/g 1;", 2).head(0, 0), 1);
    }

    private static void oneTooMany() {
        check.sentence("5 a 61st MARK, a ninth 'see', 'also' (at the clause's first letter)");
        String sixty = "mark a1;".repeat(60);
        faulty(sixty + "  mark a 1;", 5, 482);
        faulty(sixty + "mark b/c 1;", 5, 480);
        fine(sixty + "see a b;also a b;asked a 5;", 2);
        faulty(links("see", 8) + "also a z;  see i z;", 5, 64 + 11);
        faulty(links("also", 8) + "see a z;  also i z;", 5, 72 + 10);
        faulty(links("see", 8) + "see a z;", 5, 64);
        faulty(links("also", 8) + "also a z;", 5, 72);
        fine(links("see", 8) + "mark z 1;also a z;asked z 9;", 9);
    }

    private static void toldTwice() {
        check.sentence("6 a second 'see', 'asked' of a HEAD (at the HEAD)");
        faulty("see a b;see a c;", 6, 12);
        faulty("see a b;see a b;", 6, 12);
        faulty("see a b;see  a a;", 6, 13);
        faulty("see abc d;see abc e;", 6, 14);
        faulty("see d abc;see d abc;", 6, 14);
        faulty("asked abc 5;asked abc 5;", 6, 18);
        faulty("asked a 5;asked a 5;", 6, 16);
        faulty("asked a 0;asked a 7;", 6, 16);
        faulty("asked a 5;asked b 5;asked a 6;", 6, 26);
        faulty("asked a 5;asked b 5;asked b 6;", 6, 26);
        faulty("see a b;see b a;see a b;", 6, 20);
        faulty("see a b;see b a;see b a;", 6, 20);
        faulty("asked a 5;mark b 1;asked  a 6;", 6, 26);
        fine("see a b;see b a;see c a;asked a 5;asked b 5;mark a 1;mark a 1;", 3);
    }

    private static void itself() {
        check.sentence("a HEAD that is to see itself, also itself (at the latter one)");
        faulty("see a a;", 6, 6);
        faulty("see abc  abc;", 6, 9);
        faulty("also a a;", 6, 7);
        faulty("also abc  abc;", 6, 10);
        fine("see a_b ab;also a_b ab;", 2);
    }

    private static void alsoTold() {
        check.sentence("an 'also' that was told already (at the latter HEAD)");
        faulty("also a b;also a b;", 6, 16);
        faulty("also a b;also a c;also a  b;", 6, 26);
        faulty("also abc d;also abc d;", 6, 20);
        faulty("also d abc;also d abc;", 6, 18);
        BackPages x = fine("also a b;also b a;also a c;see a b;", 3);
        check.due("a's", x.head(0, 3), 6);
        check.due("b's", x.head(1, 3), 1);
    }

    private static void emptyText() {
        check.sentence("An empty text (or one of blanks alone) has no FAULT: no HEADS");
        for (String text : new String[] {"", " ", " ".repeat(600)}) {
            BackPages x = Check.of("mark a/b 5;see c a;");
            Check.feed(x, "mark");
            x.read();
            check.due("a fault first", x.fault(), 4);
            Check.feed(x, text);
            check.due("read", x.read(), 0);
            check.due("fault", x.fault(), NONE);
            check.due("heads", x.count(0), 0);
            check.due("marks", x.count(1), 0);
            check.due("printed", x.count(5), 0);
            check.due("head 0", x.head(0, 0), UNKNOWN);
        }
    }

    // ---- promises 1 to 5

    private static void newObject() {
        check.sentence("No HEADS, no PAIRS");
        check.due("of a new one", View.of(new BackPages()), "fault -1, bytes 0\n\nprinted\ncount 3 is 0\ncount 4 is 0\n"
                + "count 5 is 0\ncount 6 is 0\norder 0, width 30\nstory by 0 0 story by 1 0 story by 2 0 story by 20 0 "
                + "later than the last: 1\nimage 0 stale -1003\nimage 1 stale -1003\n\nits text read: 0 -1 0\n");
        BackPages x = Check.of("mark a 5;");
        check.due("two objects have nothing in common", new BackPages().count(0) + x.count(0), 1);
    }

    private static void feeding() {
        check.sentence("The n lowest bytes (n 1 .. 8) of a long, the highest of these first, come behind THE TEXT: how many it has");
        BackPages x = new BackPages();
        check.due("n 0", x.feed(0, ' '), OUTSIDE);
        check.due("n -1", x.feed(-1, ' '), OUTSIDE);
        check.due("n 9", x.feed(9, ' '), OUTSIDE);
        check.due("n least", x.feed(Integer.MIN_VALUE, ' '), OUTSIDE);
        check.due("n most", x.feed(Integer.MAX_VALUE, ' '), OUTSIDE);
        check.due("nothing came", x.count(2), 0);
        check.due("n 8", x.feed(8, 0x6d61726b20612035L), 8);
        check.due("n 1 of eight", x.feed(1, 0x616161616161613bL), 9);
        check.due("'mark a 5;'", x.read(), 1);
        check.due("its mark", Check.marks(x), "0:5-5");
        for (int n = 1; n <= 8; n++) {
            BackPages y = new BackPages();
            // all bits above the n bytes are set; they are left out
            long above = n == 8 ? 0 : -1L << 8 * n;
            long blanks = n == 8 ? 0x2020202020202020L : 0x2020202020202020L & ~above;
            check.due(n + " blanks", y.feed(n, above | blanks), n);
            check.due(n + " blanks read", y.read(), 0);
            check.due(n + " blanks and a sign", y.feed(n, above | blanks & ~255L | ';'), n);
            check.due("read", y.read(), -11);
            check.due("the lowest byte comes last", y.fault(), n - 1);
        }
        BackPages z = new BackPages();
        z.feed(8, -1L);
        check.due("bytes 255", z.read(), -11);
        check.due("at the first", z.fault(), 0);
    }

    private static void fullText() {
        check.sentence("OUTSIDE, FULL (600)");
        for (int n = 1; n <= 8; n++) {
            BackPages x = new BackPages();
            for (int i = 0; i < 600 - n; i += 8) {
                x.feed(Math.min(8, 600 - n - i), 0x2020202020202020L);
            }
            check.due("ahead of the last " + n, x.count(2), 600 - n);
            if (n < 8) {
                check.due("one too many", x.feed(n + 1, 0x3b3b3b3b3b3b3b3bL), FULL);
                check.due("none of them came", x.count(2), 600 - n);
            }
            check.due("the last " + n, x.feed(n, 0x2020202020202020L), 600);
            check.due("one more", x.feed(1, ' '), FULL);
            check.due("eight more", x.feed(8, ' '), FULL);
            check.due("nine more", x.feed(9, ' '), OUTSIDE);
            check.due("none more", x.feed(0, ' '), OUTSIDE);
            check.due("still", x.count(2), 600);
            check.due("blanks alone", x.read(), 0);
            check.due("room again", x.feed(8, ' '), 8);
        }
    }

    private static void readEmpties() {
        check.sentence("THE TEXT (it is empty then, with a FAULT, too) becomes all HEADS and MARKS: how many HEADS");
        BackPages x = new BackPages();
        Check.feed(x, "mark a 5");
        check.due("a fault", x.read(), -11);
        check.due("empty", x.count(2), 0);
        Check.feed(x, ";mark b 5;");
        check.due("nothing is left of the first part", x.read(), -11);
        check.due("at its first byte", x.fault(), 0);
        Check.feed(x, "mark b/s 5;see c b;");
        check.due("two", x.read(), 2);
        check.due("empty", x.count(2), 0);
        Check.feed(x, "mark d 7;");
        check.due("one", x.read(), 1);
        check.due("all are of the latest text", View.told(x), "d see -1 also 0 asked 0 subs\n0:7-7");
        StringBuilder text = new StringBuilder();
        for (int h = 0; h < 16; h++) {
            text.append("asked ").append((char) ('a' + h)).append(" 1;");
        }
        check.due("sixteen", reads(text.toString(), 16, NONE).count(0), 16);
    }

    private static void readAgain() {
        check.sentence("becomes all HEADS and MARKS", "each time anew");
        BackPages x = new BackPages();
        String[] texts = {"mark a/x 1;mark a/y 2;mark b/z 3;see b a;also a b;asked a 5;" + links("see", 1).replace('a', 'c') + links("also", 7),
            "mark a/x 1;mark b/x 2;", links("see", 8), links("also", 8), "asked a 0;asked b 0;", heads(16), "mark a1;".repeat(60)};
        for (int time = 0; time < 3; time++) {
            for (String text : texts) {
                Check.feed(x, text);
                int heads = x.read();
                check.due("read of " + text, View.told(x), View.told(fine(text, heads)));
                check.due("lines of " + text, x.count(4), Check.of(text).count(4));
                if (time > 0) {
                    Check.feed(x, text);
                    check.due("read again of " + text, x.read(), heads);
                    check.due("told again by " + text, View.told(x), View.told(Check.of(text)));
                }
            }
        }
        for (String text : new String[] {"mark a/x 1;", "mark a/y 1;", "mark a 1;", "mark a/x 1;", "mark a/x 1;mark a/y 2;", "mark a/y 1;"}) {
            Check.feed(x, text);
            x.read();
            check.due("read then of " + text, View.told(x), View.told(Check.of(text)));
        }
    }

    private static BackPages much() {
        BackPages x = Check.of("mark ab/s 5 main;see c ab;also d c;asked c 9;");
        x.keep(0);
        x.add(0, NONE, 7, 8, false);
        x.keep(1);
        x.drop(0);
        x.order(1);
        x.width(25);
        x.saw(3, 5);
        x.saw(4, 7);
        return x;
    }

    private static void readLeavesAll() {
        check.sentence("-10 less the number of its FAULT (all else is as it was)");
        String six = "mark a/a1;mark a/b1;mark a/c1;mark a/d1;mark a/e1;mark a/f1;";
        String[] texts = {"mark q 1;x", "mark q 1;asked q 100;", "see q r;mark _s 1;", six + "mark a/g 1;", links("see", 9),
            "also q r;also q r;"};
        String due = View.besideText(much());
        for (int number = 1; number <= 6; number++) {
            BackPages x = much();
            Check.feed(x, texts[number - 1]);
            check.due("fault " + number, x.read(), -10 - number);
            check.due("empty", x.count(2), 0);
            check.due("all else", View.besideText(x), due);
        }
        BackPages y = much();
        Check.feed(y, "mark q 1;");
        check.due("a text without a fault", y.read(), 1);
        check.due("pairs stay", y.count(3), 2);
        check.due("order stays", y.order(0), 1);
        check.due("width stays", y.width(30), 25);
        check.due("image 0 stays", y.goBack(0), 1);
        check.due("its marks", Check.marks(y), "0/0:*5-5");
        check.due("image 1 stays", y.goBack(1), 1);
        check.due("its marks", Check.marks(y), "0/0:*5-5 0:7-8");
    }

    private static void faultOfTheLatest() {
        check.sentence("The place (from 0 on) of the byte that has the FAULT of the latest read(); NONE");
        BackPages x = new BackPages();
        check.due("no read yet", x.fault(), NONE);
        Check.feed(x, "x");
        check.due("not read yet", x.fault(), NONE);
        x.read();
        check.due("the first byte", x.fault(), 0);
        Check.feed(x, "mark a 5;x");
        check.due("still of the one before", x.fault(), 0);
        x.read();
        check.due("the latest", x.fault(), 9);
        check.due("asked again", x.fault(), 9);
        Check.feed(x, "mark a 5;");
        x.read();
        check.due("without a fault", x.fault(), NONE);
    }

    private static void counts() {
        check.sentence("How many: 0 HEADS, 1 MARKS, 2 bytes of THE TEXT, 3 PAIRS, 4 LINES, 5 bytes PRINTED, 6 HEADS that are FILLED. OUTSIDE");
        int[] none = {0, 0, 0, 0, 0, 0, 0};
        int[] full = {16, 60, 600, 20, 16, 16 * 5, 16};
        BackPages empty = new BackPages();
        BackPages x = Check.of(heads(16));
        for (int k = 16; k < 60; k++) {
            x.add(k % 16, NONE, 1, 1, false);
        }
        for (int i = 1; i <= 20; i++) {
            x.saw(i, i);
        }
        Check.feed(x, " ".repeat(600));
        for (int what = 0; what <= 6; what++) {
            check.due("none, count " + what, empty.count(what), none[what]);
            check.due("full, count " + what, x.count(what), full[what]);
        }
        for (int what : new int[] {-1, 7, 8, Integer.MIN_VALUE, Integer.MAX_VALUE}) {
            check.due("count " + what, x.count(what), OUTSIDE);
            check.due("none, count " + what, empty.count(what), OUTSIDE);
        }
        BackPages some = Check.of("mark a/s 1;see b a;also c a;asked d 1;mark e 1;");
        check.due("filled by a sub alone, too", some.count(6), 2);
        some.drop(0);
        check.due("a sub without marks fills none", some.count(6), 1);
    }
}
