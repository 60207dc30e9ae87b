/** Heads alike, images and promises 31 to 34: each sentence that names a boundary, in the document's order. */
public final class ImageEdgesTest {
    private static final Check check = new Check();
    private static final int NONE = BackPages.NONE, UNKNOWN = BackPages.UNKNOWN;
    private static final int NOT = BackPages.NOT, FULL = BackPages.FULL, LEAST = Integer.MIN_VALUE, MOST = Integer.MAX_VALUE;
    private static final String SIX = "mark a/p 1;mark a/q 2;mark a/r 3;mark a/s 4;mark a/t 5;mark a/u 6;";

    public static void main(String[] args) {
        alike();
        andS();
        oneByte();
        everyPlace();
        firstThatIsSo();
        nearBounds();
        marksBecome();
        subsBehind();
        alsoButItself();
        askedAsBoth();
        restOfB();
        howManyMarks();
        joinUnknown();
        joinNot();
        joinFull();
        twoImages();
        imagesKeep();
        fullImages();
        imagesKeepNot();
        imagesStay();
        imagesOfNone();
        imageBounds();
        check.end();
    }

    private static void near(int due, String a, String b) {
        BackPages x = Check.of("asked z 1;see " + a + " " + b + ";");
        check.due(a + " " + b, x.near(1, 2), due);
        check.due(b + " " + a, x.near(2, 1), due);
    }

    // ---- near

    private static void alike() {
        check.sentence("NEAR are two HEADS ('_' left out): 1: alike");
        near(1, "ab", "a_b");
        near(1, "a_bc", "ab_c");
        near(1, "abcdef_ghijk", "abcde_fghijk");
        near(1, "a_b_c_d_e_f", "abcdef");
        near(0, "ab", "b_a");
    }

    private static void andS() {
        check.sentence("2: one is the other and 's'");
        near(2, "a", "as");
        near(2, "s", "ss");
        near(2, "a", "a_s");
        near(2, "abcdefghijk", "abcdefghijks");
        near(2, "abcdefghij_k", "abcdefghijks");
        near(2, "a_b_s", "ab");
        near(3, "a", "sa");
        near(0, "a", "ass");
        near(0, "a", "bs");
        near(3, "as", "asz");
        near(3, "a", "ar");
        near(3, "a", "at");
    }

    private static void oneByte() {
        check.sentence("3: one byte is other, put in, or left out; 0 none of these");
        near(3, "a", "b");
        near(3, "abc", "xbc");
        near(3, "abc", "axc");
        near(3, "abc", "abx");
        near(3, "abc", "xabc");
        near(3, "abc", "axbc");
        near(3, "abc", "abcx");
        near(3, "abc", "bc");
        near(3, "abc", "ac");
        near(3, "abc", "ab");
        near(3, "aab", "ab");
        near(3, "abcdefghijkl", "abcdefghijkm");
        near(3, "abcdefghijkl", "xbcdefghijkl");
        near(3, "abcdefghijkl", "abcdefghijk");
        near(3, "abcdefghijkl", "bcdefghijkl");
        near(3, "abcdefghijkl", "abcdeghijkl");
        near(3, "a_b", "a_c");
        near(3, "a_bc", "a_c");
        near(0, "abcdefghijkl", "bcdefghijklm");
        near(0, "abcdefghijkl", "abcdefghij");
        near(0, "abc", "cba");
        near(0, "ab", "ba");
        near(0, "ab", "cd");
        near(0, "abc", "xyc");
        near(0, "abc", "a");
        near(0, "abcd", "abxy");
        near(0, "abcd", "xbcdy");
        near(0, "a", "abc");
    }

    private static boolean isOneByteOff(String a, String b) {
        for (int i = 0; i < a.length(); i++) {
            String without = a.substring(0, i) + a.substring(i + 1);
            if (without.equals(b) || i < b.length() && without.equals(b.substring(0, i) + b.substring(i + 1)) && a.length() == b.length()) {
                return true;
            }
        }
        return false;
    }

    private static int nearDue(String a, String b) {
        if (a.equals(b)) {
            return 1;
        }
        if (a.equals(b + "s") || b.equals(a + "s")) {
            return 2;
        }
        return isOneByteOff(a, b) || isOneByteOff(b, a) ? 3 : 0;
    }

    /** Words of each length, and others with two bytes changed, put in or left out, at every two places. */
    private static void everyPlace() {
        check.sentence("3: one byte is other, put in, or left out", "at every place");
        for (int length = 1; length <= 12; length++) {
            String word = "bdbcrsbbcdsr".substring(12 - length);
            for (int i = 0; i < length; i++) {
                for (int j = i; j < length; j++) {
                    StringBuilder other = new StringBuilder(word);
                    other.setCharAt(i, (char) (word.charAt(i) + 1));
                    nearPlainly(word, other.toString());
                    other.setCharAt(j, (char) (word.charAt(j) ^ 1));
                    nearPlainly(word, other.toString());
                    other.deleteCharAt(i);
                    nearPlainly(word, other.toString());
                    nearPlainly(word, word.substring(0, i) + word.substring(j));
                    nearPlainly(word, word.substring(0, i) + 's' + word.substring(i, j) + word.substring(j + 1));
                    nearPlainly(word, word.substring(0, j) + "sb" + word.substring(j));
                }
            }
        }
    }

    private static void nearPlainly(String a, String b) {
        if (!a.equals(b) && !b.isEmpty() && b.length() <= 12) {
            near(nearDue(a, b), a, b);
        }
    }

    private static void firstThatIsSo() {
        check.sentence("(the first that is so)");
        near(2, "tide", "tides");
        near(1, "tide_s", "tides");
        near(2, "x", "x_s");
    }

    private static void nearBounds() {
        check.sentence("NEAR. UNKNOWN (one twice)");
        StringBuilder text = new StringBuilder();
        for (int h = 0; h < 16; h++) {
            text.append("asked ").append((char) ('a' + h)).append(" 1;");
        }
        BackPages x = Check.of(text.toString());
        check.due("the first and the last", x.near(0, 15), 3);
        check.due("the last and the first", x.near(15, 0), 3);
        for (int h = 0; h < 16; h++) {
            check.due("twice " + h, x.near(h, h), UNKNOWN);
        }
        for (int h : new int[] {-1, 16, LEAST, MOST}) {
            check.due("first " + h, x.near(h, 0), UNKNOWN);
            check.due("second " + h, x.near(0, h), UNKNOWN);
            check.due("twice " + h, x.near(h, h), UNKNOWN);
        }
        check.due("of none", new BackPages().near(0, 1), UNKNOWN);
    }

    // ---- joined

    private static void marksBecome() {
        check.sentence("JOINED is a HEAD b to a: its MARKS become those of a (of a's SUB of the like WORD");
        BackPages x = Check.of("mark b/t 9;mark a 1;mark b 2-3 main;mark a/s 4;mark b/s 5;mark a/t 6;mark c/s 7;");
        // b is head 0, a 1, c 2; a's s is sub 0, its t sub 1
        check.due("six", x.join(1, 0), 6);
        check.due("their numbers stay", Check.marks(x), "1/1:9-9 1:1-1 1:*2-3 1/0:4-4 1/0:5-5 1/1:6-6 2/0:7-7");
        check.due("no sub more", x.head(1, 0), 2);
    }

    private static void subsBehind() {
        check.sentence("a SUB that a has not is a's, in order, behind its own");
        BackPages x = Check.of("mark a/s 1;mark b/z 2;mark b/s 3;mark b/y 4;mark b/x 5;");
        check.due("five", x.join(0, 1), 5);
        check.due("all", View.told(x), "a see -1 also 0 asked 0 subs s z y x\nb see 0 also 0 asked 0 subs\n0/0:1-1 0/1:2-2 0/0:3-3 0/2:4-4 0/3:5-5");
        BackPages y = Check.of("asked a 1;" + SIX.replace("a/", "b/"));
        check.due("all six", y.join(0, 1), 6);
        check.due("in order", View.told(y), "a see -1 also 0 asked 1 subs p q r s t u\nb see 0 also 0 asked 0 subs\n"
                + "0/0:1-1 0/1:2-2 0/2:3-3 0/3:4-4 0/4:5-5 0/5:6-6");
    }

    private static void alsoButItself() {
        check.sentence("a has what b has ALSO (but a itself)");
        BackPages x = Check.of("also b a;also b c;also b d;also a d;also a b;also c b;");
        // b is head 0, a 1, c 2, d 3
        check.due("join", x.join(1, 0), 0);
        check.due("a's", x.head(1, 3), 1 + 4 + 8);
        check.due("b's", x.head(0, 3), 0);
        check.due("c's stays", x.head(2, 3), 1);
    }

    private static void askedAsBoth() {
        check.sentence("is ASKED for as often as both (99 at most)");
        int[][] rows = {{0, 0, 0}, {49, 50, 99}, {50, 50, 99}, {99, 99, 99}, {98, 0, 98}, {0, 99, 99}, {99, 1, 99}, {1, 97, 98}};
        for (int[] row : rows) {
            BackPages x = Check.of("asked a " + row[0] + ";asked b " + row[1] + ";");
            x.join(0, 1);
            check.due(row[0] + " and " + row[1], x.head(0, 4), row[2]);
            check.due("b's", x.head(1, 4), 0);
        }
    }

    private static void restOfB() {
        check.sentence("b has a SEE to a, no SUBS, MARKS, ALSO, is ASKED for 0 times");
        BackPages x = Check.of("mark a 1;mark b/s 2;mark b 3;see b c;also b c;asked b 9;see d b;also e b;");
        check.due("join", x.join(0, 1), 3);
        int[] due = {0, 0, 0, 0, 0, 0, 1};
        for (int what = 0; what <= 6; what++) {
            check.due("b's " + what, x.head(1, what), due[what]);
        }
        check.due("its sub is gone", x.name(1, 0, 0), UNKNOWN);
        check.due("a sees none", x.head(0, 2), NONE);
        check.due("d sees b still", x.head(3, 2), 1);
        check.due("e sees b also still", x.head(4, 3), 2);
        check.due("from d to a", x.look(3, 0), 0);
        check.due("once more", x.join(0, 1), 3);
        check.due("nothing comes of it", x.head(0, 0), 1);
    }

    private static void howManyMarks() {
        check.sentence("b is JOINED to a: how many MARKS a has then (all)");
        check.due("none", Check.of("asked a 1;asked b 1;").join(0, 1), 0);
        check.due("a's alone", Check.of("mark a 1;mark a/s 1;asked b 1;").join(0, 1), 2);
        check.due("b's alone", Check.of("mark b 1;mark b/s 1;asked a 1;").join(1, 0), 2);
        check.due("another's not", Check.of("mark b 1;mark a 1;mark c 1;").join(1, 0), 2);
        check.due("sixty", Check.of("mark a1;".repeat(30) + "mark b1;".repeat(30)).join(0, 1), 60);
    }

    private static void joinUnknown() {
        check.sentence("how many MARKS a has then (all). UNKNOWN (one twice)");
        BackPages x = Check.of("mark a/s 1;mark b 2;see c b;");
        String before = View.told(x);
        for (int h : new int[] {-1, 3, LEAST, MOST}) {
            check.due("a is " + h, x.join(h, 0), UNKNOWN);
            check.due("b is " + h, x.join(0, h), UNKNOWN);
            check.due("both are " + h, x.join(h, h), UNKNOWN);
            check.due("b is " + h + ", a has a see", x.join(2, h), UNKNOWN);
        }
        for (int h = 0; h < 3; h++) {
            check.due("twice " + h, x.join(h, h), UNKNOWN);
        }
        check.due("as it was", View.told(x), before);
        check.due("of none", new BackPages().join(0, 1), UNKNOWN);
    }

    private static void joinNot() {
        check.sentence("NOT: a has a SEE");
        BackPages x = Check.of("mark a 1;see a c;mark b 2;see b a;asked c 5;");
        String before = View.told(x);
        check.due("a filled one", x.join(0, 2), NOT);
        check.due("to one that it sees", x.join(0, 1), NOT);
        check.due("as it was", View.told(x), before);
        check.due("b may have one", x.join(1, 2), 1);
        check.due("its see is another now", x.head(2, 2), 1);
        check.due("and back", x.join(2, 1), NOT);
    }

    private static void joinFull() {
        check.sentence("FULL: it would have more than 6 SUBS");
        BackPages x = Check.of(SIX + "mark b/u 1;mark b/p 2;mark c/v 3;see d a;");
        String before = View.told(x);
        check.due("a seventh", x.join(0, 2), FULL);
        check.due("as it was", View.told(x), before);
        check.due("a sees one: NOT is ahead", x.join(3, 0), NOT);
        check.due("all are a's", x.join(0, 1), 8);
        check.due("six", x.head(0, 0), 6);
        BackPages y = Check.of(SIX.substring(11) + "mark b/v 1;mark c/w 1;mark d/w 2;");
        check.due("five and one", y.join(0, 1), 6);
        check.due("six and one", y.join(0, 2), FULL);
        check.due("one and six", y.join(2, 0), FULL);
        check.due("one and one alike", y.join(2, 3), 2);
        check.due("six and none", y.join(0, 1), 6);
        BackPages gone = Check.of("mark b/v 1;" + SIX);
        gone.drop(0);
        check.due("a sub without marks, too", gone.join(1, 0), FULL);
        BackPages both = Check.of(SIX + SIX.replace("a/", "b/"));
        check.due("six and the same six", both.join(0, 1), 12);
    }

    // ---- images

    private static void twoImages() {
        check.sentence("IMAGE i becomes what is so: 1. UNKNOWN.");
        BackPages x = Check.of("mark a 1;");
        check.due("keep 0", x.keep(0), 1);
        x.add(0, NONE, 3, 3, false);
        check.due("keep 1", x.keep(1), 1);
        x.add(0, NONE, 5, 5, false);
        check.due("back to 0", x.goBack(0), 1);
        check.due("its marks", Check.marks(x), "0:1-1");
        check.due("back to 1", x.goBack(1), 1);
        check.due("its marks", Check.marks(x), "0:1-1 0:3-3");
        check.due("keep 0 over", x.keep(0), 1);
        check.due("back to 0", x.goBack(0), 1);
        check.due("its marks", Check.marks(x), "0:1-1 0:3-3");
    }

    private static BackPages much() {
        return Check.of("mark ab_c/s_t 5 main;mark d/x 1-99;mark d/y 2;mark d 3;see e d;also e ab_c;also e d;asked e 99;asked f 1;");
    }

    private static void imagesKeep() {
        check.sentence("IMAGES 0, 1 keep HEADS, MARKS and what is told of them");
        for (int i = 0; i < 2; i++) {
            BackPages x = much();
            String told = View.told(x);
            String printed = Check.printed(x);
            x.keep(i);
            x.join(0, 1);
            x.asked(2, 1);
            x.takeOut(1, 5);
            check.due("back to " + i, x.goBack(i), 1);
            check.due("all", View.told(x), told);
            check.due("printed", Check.printed(x), printed);
            Check.feed(x, "mark q/r 1;see s q;");
            x.read();
            x.goBack(i);
            check.due("all, after another text", View.told(x), told);
        }
        StringBuilder text = new StringBuilder();
        for (int h = 0; h < 16; h++) {
            text.append("mark ").append((char) ('a' + h)).append("/s1;");
        }
        BackPages full = Check.of(text.toString());
        for (int k = 16; k < 60; k++) {
            full.add(k % 16, 0, k, k, k % 2 == 0);
        }
        full.keep(1);
        full.takeOut(1, 99);
        full.goBack(1);
        check.due("sixty marks", full.count(1), 60);
        check.due("the last", full.mark(59, 0) + " " + full.mark(59, 1) + " " + full.mark(59, 2) + " " + full.mark(59, 4), "11 0 59 0");
        check.due("sixteen heads", Check.name(full, 15, NONE), "p");
        String six = "mark p/a 1;mark p/b 2;mark p/c 3;mark p/d 4;mark p/e 5;mark p/f 6;";
        BackPages last = Check.of(text.substring(0, text.length() - 10) + six);
        String told = View.told(last);
        last.keep(0);
        Check.feed(last, text.toString().replace("/s", "/x"));
        last.read();
        last.keep(1);
        last.goBack(0);
        check.due("all subs of the last head", View.told(last), told);
        last.goBack(1);
        check.due("the other", Check.name(last, 15, 0) + last.head(15, 0), "x1");
        Check.feed(last, "see a b;also a b;asked a 9;mark a 5;");
        last.read();
        last.goBack(0);
        check.due("all again", View.told(last), told);
    }

    /** 16 heads, 8 see, 8 also (the last heads'), two heads of six subs, 60 marks. */
    private static BackPages full() {
        StringBuilder text = new StringBuilder("asked a 1;asked b 2;asked c 3;asked d 4;");
        for (char head = 'e'; head <= 'p'; head++) {
            text.append("asked ").append(head).append(head - 'a' + 1).append(';');
        }
        for (char head = 'i'; head <= 'p'; head++) {
            text.append("see ").append(head).append(" c;also ").append(head).append(' ').append((char) (head - 8)).append(';');
        }
        for (char sub = 'u'; sub <= 'z'; sub++) {
            text.append("mark a/").append(sub).append("7;mark p/").append(sub).append("9;");
        }
        BackPages x = Check.of(text.toString());
        for (int k = 12; k < 60; k++) {
            x.add(k % 2 == 0 ? 15 : k % 16, k % 2 == 0 ? k % 6 : NONE, k, k + k % 3, k % 4 > 1);
        }
        return x;
    }

    private static void fullImages() {
        check.sentence("keep HEADS, MARKS and what is told of them", "all of them, the last ones too");
        BackPages first = full();
        String heads = View.heads(first);
        String marks = Check.marks(full());
        check.due("the last head", heads.substring(heads.indexOf("\np ") + 1), "p see 2 also 128 asked 16 subs u v w x y z\n");
        check.due("the last mark", marks.substring(marks.lastIndexOf(' ') + 1), "11:*59-61");
        for (int i = 0; i < 2; i++) {
            BackPages x = keptAndBack(i);
            check.due("heads of image " + i, View.heads(x), heads);
            BackPages y = keptAndBack(i);
            check.due("marks of image " + i, Check.marks(y), marks);
        }
    }

    private static BackPages keptAndBack(int i) {
        BackPages x = full();
        x.keep(i);
        Check.feed(x, "mark z 1;");
        check.due("another text", x.read(), 1);
        x.keep(1 - i);
        check.due("back to " + i, x.goBack(i), 1);
        return x;
    }

    private static void imagesKeepNot() {
        check.sentence("(not THE TEXT, its FAULT, WIDTH, THE ORDER, PAIRS)");
        BackPages x = much();
        x.width(40);
        x.saw(1, 1);
        Check.feed(x, "mark a");
        x.keep(0);
        x.width(50);
        x.order(1);
        x.saw(2, 2);
        x.read();
        Check.feed(x, "mark b 1;mark");
        check.due("go back", x.goBack(0), 1);
        check.due("text", x.count(2), 13);
        check.due("fault", x.fault(), 6);
        check.due("width", x.width(50), 50);
        check.due("order", x.order(1), 1);
        check.due("pairs", x.count(3), 2);
        check.due("the text is the latter", x.read(), -11);
        check.due("its fault", x.fault(), 13);
    }

    private static void imagesStay() {
        check.sentence("What is so becomes IMAGE i: 1", "the image stays");
        BackPages x = much();
        x.keep(0);
        String told = View.told(x);
        for (int i = 0; i < 3; i++) {
            x.goBack(0);
            x.add(0, NONE, 9, 9, true);
            x.asked(0, 50 + i);
            x.drop(0);
            x.join(3, 0);
            x.putIn(0, 0);
        }
        Check.feed(x, "mark z 1;");
        x.read();
        x.goBack(0);
        check.due("as it was kept", View.told(x), told);
        check.due("not stale", x.stale(0), 0);
    }

    private static void imagesOfNone() {
        check.sentence("IMAGE i becomes what is so: 1", "no heads");
        BackPages x = new BackPages();
        check.due("keep", x.keep(1), 1);
        Check.feed(x, "mark a/s 1;");
        x.read();
        check.due("go back", x.goBack(1), 1);
        check.due("heads", x.count(0), 0);
        check.due("marks", x.count(1), 0);
        check.due("printed", x.print(0), NONE);
        check.due("head 0", x.head(0, 0), UNKNOWN);
    }

    private static void imageBounds() {
        check.sentence("What is so becomes IMAGE i: 1. UNKNOWN, NOT: it was not kept");
        BackPages x = Check.of("mark a 1;");
        for (int i : new int[] {-1, 2, 3, LEAST, MOST}) {
            check.due("keep " + i, x.keep(i), UNKNOWN);
            check.due("goBack " + i, x.goBack(i), UNKNOWN);
        }
        check.due("goBack 0", x.goBack(0), NOT);
        check.due("goBack 1", x.goBack(1), NOT);
        x.keep(0);
        check.due("goBack 1 still", x.goBack(1), NOT);
        check.due("goBack 0 now", x.goBack(0), 1);
        x.keep(1);
        check.due("goBack 1 now", x.goBack(1), 1);
        BackPages y = Check.of("mark a 1;");
        y.keep(1);
        check.due("goBack 0, not kept", y.goBack(0), NOT);
        check.due("marks stay", y.count(1), 1);
    }
}
