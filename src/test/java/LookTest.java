/** Promises 18 to 21: looking, steps, finds, trouble. */
public final class LookTest {
    private static final Check check = new Check();
    private static final int NONE = BackPages.NONE, UNKNOWN = BackPages.UNKNOWN, OUTSIDE = BackPages.OUTSIDE;

    public static void main(String[] args) {
        looking();
        steps();
        finds();
        blindAndRound();
        runsAndSubs();
        alsoAndTwins();
        check.end();
    }

    private static void looking() {
        // a 0 -> b 1 -> c 2 (filled) -> d 3 -> e 4 -> d; f 5 nothing
        BackPages x = Check.of("see a b;see b c;mark c/s 5;see c d;see d e;see e d;asked f 1;");
        int[] heads = {2, 2, 2, NONE, NONE, NONE};
        int[] steps = {2, 1, 0, NONE, NONE, NONE};
        for (int h = 0; h < 6; h++) {
            check.due("look " + h, x.look(h, 0), heads[h]);
            check.due("look steps " + h, x.look(h, 1), steps[h]);
        }
        check.due("look what 2", x.look(0, 2), OUTSIDE);
        check.due("look what -1", x.look(3, -1), OUTSIDE);
        check.due("look 6", x.look(6, 2), UNKNOWN);
        check.due("look -1", x.look(-1, 0), UNKNOWN);
        BackPages y = Check.of("see a b;see b c;see c d;see d e;see e f;see f g;see g h;see h i;mark i 1;");
        check.due("eight steps", y.look(0, 1), 8);
        check.due("to the ninth", y.look(0, 0), 8);
    }

    private static void steps() {
        BackPages x = Check.of("see a b;mark a 1;also a c;mark b 2;mark c/s 3-5;see c d;mark d 6;also d a;mark e 9;also b d;");
        check.due("itself", x.steps(0, 1), 0);
        check.due("by see of a filled one", x.steps(0, 2), 1);
        check.due("by also, a sub's", x.steps(0, 4), 1);
        check.due("two", x.steps(0, 6), 2);
        check.due("none", x.steps(0, 9), NONE);
        check.due("its own", x.steps(4, 9), 0);
        check.due("back", x.steps(3, 5), 2);
        check.due("page 0", x.steps(0, 0), OUTSIDE);
        check.due("page 100", x.steps(0, 100), OUTSIDE);
        check.due("head 5", x.steps(5, 0), UNKNOWN);
        check.due("head -1", x.steps(-1, 1), UNKNOWN);
        BackPages far = Check.of("see a b;see b c;see c d;see d e;see e f;see f g;see g h;see h i;also i j;also j k;"
                + "also k l;also l m;also m n;also n o;also o p;mark p 7;");
        check.due("fifteen", far.steps(0, 7), 15);
        check.due("finds in nine", far.finds(0, 9), 0);
        check.due("finds from the seventh", far.finds(6, 9), 1);
    }

    private static void finds() {
        BackPages x = Check.of("mark a 1-3;mark a/s 3-5;also a b;mark b 60-70;mark b 1;see b c;mark c 64;mark c 99;mark d 50;");
        check.due("0 steps", x.finds(0, 0), 5);
        check.due("1 step", x.finds(0, 1), 16);
        check.due("2 steps", x.finds(0, 2), 17);
        check.due("9 steps", x.finds(0, 9), 17);
        check.due("10 steps", x.finds(0, 10), OUTSIDE);
        check.due("-1 steps", x.finds(0, -1), OUTSIDE);
        check.due("head 4", x.finds(4, 10), UNKNOWN);
        x.add(3, NONE, 1, 99, false);
        check.due("all pages", x.finds(3, 0), 99);
        x.drop(0);
        check.due("after a drop", x.finds(0, 0), 3);
    }

    private static void blindAndRound() {
        // a b go round, c sees into the round, d blind, e filled and sees itself by f
        BackPages x = Check.of("see a b;see b a;see c a;asked d 1;mark e 5;see e f;see f e;also g e;");
        check.due("blind", x.trouble(0, 0), 1 + 2 + 4 + 8 + 64);
        check.due("round", x.trouble(1, 0), 1 + 2 + 16 + 32);
        check.due("filled with a see", x.trouble(2, 0), 16);
        check.due("trouble 7", x.trouble(7, 0), OUTSIDE);
        check.due("trouble -1", x.trouble(-1, 0), OUTSIDE);
        check.due("m 21", x.trouble(0, 21), OUTSIDE);
        check.due("m -1", x.trouble(0, -1), OUTSIDE);
        check.due("m 20", x.trouble(2, 20), 16);
    }

    private static void runsAndSubs() {
        BackPages x = Check.of("mark a 1;mark a 3;mark a 5;mark b 1;mark b 2;mark c 1;mark c 3;mark c/s 1;mark d/s 1;mark d/t 1;");
        check.due("more than 0", x.trouble(3, 0), 3);
        check.due("more than 1", x.trouble(3, 1), 1);
        check.due("more than 2", x.trouble(3, 2), 1);
        check.due("more than 3", x.trouble(3, 3), 0);
        check.due("one sub alone", x.trouble(4, 0), 4);
        x.drop(9);
        check.due("one left", x.trouble(4, 0), 12);
        x.drop(7);
        check.due("a sub without marks is none", x.trouble(3, 1), 5);
        check.due("nor alone", x.trouble(4, 0), 8);
    }

    private static void alsoAndTwins() {
        BackPages x = Check.of("also a b;also b c;mark b 1;mark c 1;see a b;also c a;also c b;");
        check.due("also of one not filled", x.trouble(5, 0), 4);
        check.due("twins", x.trouble(6, 0), 6);
        BackPages y = Check.of("mark a 1-4;mark b/s 1-2;mark b/t 3-4;mark b 2;mark c 1-3;mark d 1-5;asked e 1;asked f 1;");
        check.due("of all marks", y.trouble(6, 0), 3);
        y.drop(5);
        check.due("less one", y.trouble(6, 0), 3);
        y.add(3, NONE, 64, 99, false);
        y.add(2, NONE, 4, 4, true);
        check.due("three", y.trouble(6, 0), 7);
        y.add(4, NONE, 64, 98, false);
        check.due("not quite", y.trouble(6, 0), 7);
        y.add(4, NONE, 99, 99, false);
        check.due("high pages", y.trouble(6, 0), 31);
    }
}
