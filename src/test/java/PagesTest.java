/** Promises 25 to 34: pages put in and taken out, stale, the story, near, joined, images. */
public final class PagesTest {
    private static final Check check = new Check();
    private static final int NONE = BackPages.NONE, UNKNOWN = BackPages.UNKNOWN, OUTSIDE = BackPages.OUTSIDE;
    private static final int NOT = BackPages.NOT, FULL = BackPages.FULL;

    public static void main(String[] args) {
        putIn();
        takeOut();
        stale();
        pairs();
        stories();
        near();
        nearOfMany();
        join();
        joinRefused();
        images();
        check.end();
    }

    private static void putIn() {
        BackPages x = Check.of("mark a 5;mark a 5-9;mark a 3-6;mark a 90;");
        check.due("p -1", x.putIn(-1, 1), OUTSIDE);
        check.due("p 100", x.putIn(100, 1), OUTSIDE);
        check.due("n 0", x.putIn(5, 0), OUTSIDE);
        check.due("n 10", x.putIn(5, 10), OUTSIDE);
        check.due("above 99? just 99", x.putIn(5, 9), 3);
        check.due("marks", Check.marks(x), "0:5-5 0:5-18 0:3-15 0:99-99");
        check.due("one more", x.putIn(5, 1), NOT);
        check.due("one more at 98", x.putIn(98, 1), NOT);
        check.due("at 99 none changes", x.putIn(99, 9), 0);
        check.due("as they were", Check.marks(x), "0:5-5 0:5-18 0:3-15 0:99-99");
        x.drop(3);
        check.due("at 0 all change", x.putIn(0, 2), 3);
        check.due("marks then", Check.marks(x), "0:7-7 0:7-20 0:5-17");
        check.due("without marks", new BackPages().putIn(0, 9), 0);
        BackPages first = Check.of("mark a 95;mark a 1;");
        check.due("the first mark is the last page", first.putIn(0, 5), NOT);
        check.due("it is as it was", Check.marks(first), "0:95-95 0:1-1");
        check.due("just 99", first.putIn(0, 4), 2);
    }

    private static void takeOut() {
        String text = "mark a 1;mark a 4;mark a 3-5;mark a 5-7;mark a 2-9;mark a 6;mark a 7-9;mark a 4-6;mark b 99;";
        BackPages x = Check.of(text);
        check.due("p 0", x.takeOut(0, 5), OUTSIDE);
        check.due("q 100", x.takeOut(5, 100), OUTSIDE);
        check.due("q below p", x.takeOut(5, 4), OUTSIDE);
        check.due("4 to 6", x.takeOut(4, 6), 3);
        check.due("marks", Check.marks(x), "0:1-1 0:3-3 0:4-4 0:2-6 0:4-6 1:96-96");
        check.due("one page", x.takeOut(3, 3), 1);
        check.due("marks then", Check.marks(x), "0:1-1 0:3-3 0:2-5 0:3-5 1:95-95");
        check.due("all pages", x.takeOut(1, 99), 5);
        check.due("none left", x.count(1), 0);
        check.due("heads stay", x.count(0), 2);
    }

    private static void stale() {
        BackPages x = Check.of("mark a 5;mark a 7;mark a/s 9-12 main;mark b 1;mark b/s 3;");
        check.due("image 2", x.stale(2), UNKNOWN);
        check.due("image -1", x.stale(-1), UNKNOWN);
        check.due("not kept", x.stale(1), NOT);
        x.keep(1);
        check.due("none yet", x.stale(1), 0);
        check.due("the other", x.stale(0), NOT);
        x.add(0, NONE, 6, 6, true);
        check.due("two runs are one now", x.stale(1), 2);
        x.keep(0);
        x.goBack(1);
        check.due("one run is two now", x.stale(0), 1);
        x.add(0, NONE, 90, 90, false);
        check.due("more runs are no harm", x.stale(1), 0);
        x.add(0, 0, 10, 10, false);
        x.drop(0);
        x.add(0, NONE, 5, 5, true);
        check.due("main or not is no harm", x.stale(1), 0);
        x.putIn(8, 1);
        check.due("pages put in", x.stale(1), 1);
        x.goBack(1);
        Check.feed(x, "mark c 1;mark b/s 3;mark s 9-12;mark b/a 7;mark a 7;mark a 5;");
        x.read();
        check.due("by words, not by numbers", x.stale(1), 2);
        Check.feed(x, "mark ab 5;mark a_s 9-12;");
        x.read();
        check.due("all wrong", x.stale(1), 5);
    }

    private static void pairs() {
        BackPages x = new BackPages();
        check.due("u 0", x.saw(0, 5), OUTSIDE);
        check.due("u 100", x.saw(100, 5), OUTSIDE);
        check.due("v 0", x.saw(5, 0), OUTSIDE);
        check.due("v 200", x.saw(5, 200), OUTSIDE);
        check.due("first", x.saw(5, 199), 1);
        check.due("the same page", x.saw(5, 7), NOT);
        check.due("an earlier page", x.saw(4, 7), NOT);
        check.due("OUTSIDE ahead", x.saw(4, 0), OUTSIDE);
        for (int i = 2; i <= 20; i++) {
            check.due("pair " + i, x.saw(i * 4, 1), i);
        }
        check.due("pair 21", x.saw(81, 1), FULL);
        check.due("NOT ahead", x.saw(80, 1), NOT);
        check.due("count", x.count(3), 20);
        check.due("read leaves them", x.read(), 0);
        check.due("count then", x.count(3), 20);
        check.due("forget", x.forget(), 20);
        check.due("forget again", x.forget(), 0);
        check.due("from the least on", x.saw(1, 1), 1);
    }

    private static void tell(int c, int cost, String stands, int... shifts) {
        BackPages x = new BackPages();
        for (int i = 0; i < shifts.length; i++) {
            x.saw(i * 3 + 30, i * 3 + 30 + shifts[i]);
        }
        StringBuilder got = new StringBuilder();
        for (int i = 0; i < shifts.length; i++) {
            got.append(x.story(c, i));
        }
        check.due("story by " + c, x.story(c, NONE), cost);
        check.due("stands by " + c, got.toString(), stands);
    }

    private static void stories() {
        tell(0, 0, "11111", 1, 2, 3, 4, 5);
        tell(5, 0, "1111", -3, -3, -3, -3);
        tell(5, 0, "1", 7);
        // 1 for the odd one or 2 for there and back
        tell(1, 1, "11011", 0, 0, 9, 0, 0);
        // like costs: the fewest left out
        tell(1, 1, "11", 0, 5);
        tell(2, 1, "10", 0, 5);
        tell(2, 2, "1111", 0, 0, 5, 5);
        // 11001 comes ahead of it, but leaves two out
        tell(1, 3, "10111", 2, 0, 2, 1, 0);
        tell(3, 2, "1100", 0, 0, 5, 5);
        tell(20, 4, "0111000", 1, 0, 0, 0, 5, 5, 7);
        tell(2, 4, "0111110", 1, 0, 0, 0, 5, 5, 7);
        tell(20, 2, "100", 1, 2, 3);
        tell(1, 2, "111", 1, 2, 3);
        tell(20, 19, "10000000000000000000", 1, 2, 3, 4, 5, 6, 7, 8, 9, 10, 11, 12, 13, 14, 15, 16, 17, 18, 19, 20);
        tell(1, 10, "11010101010101010101", 1, 2, 1, 2, 1, 2, 1, 2, 1, 2, 1, 2, 1, 2, 1, 2, 1, 2, 1, 2);
        BackPages x = new BackPages();
        check.due("no pairs", x.story(5, NONE), 0);
        check.due("no pair 0", x.story(5, 0), UNKNOWN);
        check.due("c 21", x.story(21, NONE), OUTSIDE);
        check.due("c -1", x.story(-1, NONE), OUTSIDE);
        check.due("UNKNOWN ahead", x.story(-1, 0), UNKNOWN);
        check.due("pair -2", x.story(0, -2), UNKNOWN);
    }

    private static void near() {
        BackPages x = Check.of("mark tide_mill 1;mark tidemill 1;mark tidemills 1;mark tidemil 1;mark tidemxll 1;mark s 1;");
        check.due("alike", x.near(0, 1), 1);
        check.due("alike, turned", x.near(1, 0), 1);
        check.due("and s", x.near(0, 2), 2);
        check.due("and s, turned", x.near(2, 0), 2);
        check.due("left out", x.near(0, 3), 3);
        check.due("put in", x.near(3, 1), 3);
        check.due("other", x.near(1, 4), 3);
        check.due("two put in", x.near(3, 2), 0);
        check.due("two others", x.near(3, 4), 0);
        check.due("far", x.near(5, 0), 0);
        check.due("one twice", x.near(1, 1), UNKNOWN);
        check.due("head 6", x.near(0, 6), UNKNOWN);
        check.due("head -1", x.near(-1, 0), UNKNOWN);
    }

    private static void nearOf(String a, String b, int due) {
        BackPages x = Check.of("see " + a + " " + b + ";");
        check.due("near " + a + " " + b, x.near(0, 1), due);
        check.due("near " + b + " " + a, x.near(1, 0), due);
    }

    private static void nearOfMany() {
        nearOf("a", "b", 3);
        nearOf("a", "ab", 3);
        nearOf("a", "as", 2);
        nearOf("a", "ass", 0);
        nearOf("a", "bs", 0);
        nearOf("s", "ss", 2);
        nearOf("b", "ab", 3);
        nearOf("ab", "ba", 0);
        nearOf("abc", "ac", 3);
        nearOf("aabb", "abb", 3);
        nearOf("abcdefghijkl", "abcdefghijkm", 3);
        nearOf("abcdefghijkl", "bbcdefghijkl", 3);
        nearOf("abcdefghijkl", "bcdefghijkl", 3);
        nearOf("abcdefghijkl", "abcdefghijk", 3);
        nearOf("abcdefghijks", "abcdefghijk", 2);
        nearOf("abcdefghijkl", "bcdefghijkla", 0);
        nearOf("a_b_c", "ab_cs", 2);
        nearOf("a_s", "a", 2);
        nearOf("a_b", "ba", 0);
    }

    private static void join() {
        BackPages x = Check.of("mark mill/race 2;mark mills/wheel 1;mark mills 7 main;mark mills/race 5-6;mark mills/dam 3;"
                + "also mills mill;also mills x;see mills y;also mill mills;asked mills 60;asked mill 30;see z mills;mark mills/a 9;");
        // mill 0, mills 1, x 2, y 3, z 4
        check.due("join", x.join(0, 1), 6);
        check.due("marks", Check.marks(x), "0/0:2-2 0/1:1-1 0:*7-7 0/0:5-6 0/2:3-3 0/3:9-9");
        String[] subs = {"race", "wheel", "dam", "a"};
        for (int sub = 0; sub < 4; sub++) {
            check.due("sub " + sub, Check.name(x, 0, sub), subs[sub]);
        }
        check.due("a's also", x.head(0, 3), 2 + 4);
        check.due("a's asked", x.head(0, 4), 90);
        int[] due = {0, 0, 0, 0, 0, 0, 1};
        for (int what = 0; what <= 6; what++) {
            check.due("b's " + what, x.head(1, what), due[what]);
        }
        check.due("look from z", x.look(4, 0), 0);
        check.due("its steps", x.look(4, 1), 2);
        check.due("printed", Check.printed(x),
                "mill, *7\n  a, 9\n  dam, 3\n  race, 2, 5-6\n  wheel, 1\n  see also mills, x\nmills, see mill\nz, see mills\n");
        BackPages turned = Check.of("mark b 1;mark a 2;");
        check.due("the first mark is b's", turned.join(1, 0), 2);
        check.due("its marks", Check.marks(turned), "1:1-1 1:2-2");
        x.asked(1, 10);
        check.due("join again", x.join(0, 1), 6);
        check.due("99 at most", x.head(0, 4), 99);
    }

    private static void joinRefused() {
        BackPages x = Check.of("mark a/a 1;mark a/b 1;mark a/c 1;mark a/d 1;mark a/e 1;mark b/f 2;mark b/e 3;mark b/g 4;see c a;mark d/x 5;");
        check.due("one twice", x.join(0, 0), UNKNOWN);
        check.due("head 4", x.join(0, 4), UNKNOWN);
        check.due("head -1", x.join(-1, 0), UNKNOWN);
        check.due("a has a see", x.join(2, 0), NOT);
        check.due("seven subs", x.join(0, 1), FULL);
        check.due("nothing changed", Check.marks(x), "0/0:1-1 0/1:1-1 0/2:1-1 0/3:1-1 0/4:1-1 1/0:2-2 1/1:3-3 1/2:4-4 3/0:5-5");
        check.due("b sees none", x.head(1, 2), NONE);
        x.drop(7);
        check.due("a sub without marks counts", x.join(0, 1), FULL);
        check.due("six subs", x.join(0, 3), 6);
        check.due("how many", x.head(0, 0), 6);
        check.due("NOT ahead of FULL", x.join(2, 1), NOT);
    }

    private static void images() {
        BackPages x = Check.of("mark a/s 5 main;see b a;also b c;asked b 9;");
        check.due("keep 2", x.keep(2), UNKNOWN);
        check.due("keep -1", x.keep(-1), UNKNOWN);
        check.due("goBack 2", x.goBack(2), UNKNOWN);
        check.due("goBack of one not kept", x.goBack(0), NOT);
        check.due("keep", x.keep(0), 1);
        x.saw(3, 5);
        x.width(40);
        x.order(1);
        Check.feed(x, "mark q/t 7;mark 5;");
        x.read();
        Check.feed(x, "mark");
        x.join(0, 1);
        x.asked(0, 50);
        x.drop(0);
        x.keep(1);
        check.due("go back", x.goBack(0), 1);
        check.due("marks", Check.marks(x), "0/0:*5-5");
        int[] due = {0, 0, 0, 4, 9, 0, 2};
        for (int what = 0; what <= 6; what++) {
            check.due("head 1 " + what, x.head(1, what), due[what]);
        }
        check.due("a sub", Check.name(x, 0, 0), "s");
        check.due("a is asked", x.head(0, 4), 0);
        check.due("text stays", x.count(2), 4);
        check.due("fault stays", x.fault(), 16);
        check.due("pairs stay", x.count(3), 1);
        check.due("width stays", x.width(30), 40);
        check.due("order stays", x.order(0), 1);
        x.add(0, NONE, 1, 1, false);
        check.due("an image does not change", x.goBack(0), 1);
        check.due("marks again", x.count(1), 1);
        check.due("the other image", x.goBack(1), 1);
        check.due("its marks", x.count(1), 0);
        check.due("its asked", x.head(0, 4), 50);
        check.due("its see", x.head(1, 2), 0);
        BackPages none = new BackPages();
        none.keep(1);
        Check.feed(none, "mark a 1;");
        none.read();
        check.due("back to none", none.goBack(1), 1);
        check.due("no heads", none.count(0), 0);
        check.due("no marks", none.count(1), 0);
    }
}
