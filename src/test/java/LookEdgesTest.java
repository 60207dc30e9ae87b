/** Looking, trouble and promises 18 to 21: each sentence that names a boundary, in the document's order. */
public final class LookEdgesTest {
    private static final Check check = new Check();
    private static final int NONE = BackPages.NONE, UNKNOWN = BackPages.UNKNOWN, OUTSIDE = BackPages.OUTSIDE;
    private static final int LEAST = Integer.MIN_VALUE, MOST = Integer.MAX_VALUE;

    public static void main(String[] args) {
        found();
        noneFound();
        fewestSteps();
        itselfAndNone();
        mostSteps();
        oneOfEach();
        blind();
        round();
        filledWithSee();
        tooManyRuns();
        mAtItsBounds();
        oneSubAlone();
        alsoOneNotFilled();
        justThePages();
        wholeSets();
        lookBounds();
        stepsBounds();
        findsBounds();
        findsUnlike();
        troubleBounds();
        check.end();
    }

    private static String heads(int many, String clause, String behind) {
        StringBuilder text = new StringBuilder();
        for (int h = 0; h < many; h++) {
            text.append(clause).append(' ').append((char) ('a' + h)).append(behind);
        }
        return text.toString();
    }

    /** 16 heads, each but the last with a see to the next one, that has all 16 marks of page 1. */
    private static BackPages chain() {
        BackPages x = Check.of(heads(16, "mark", " 1;"));
        for (int h = 0; h < 15; h++) {
            check.due("join " + h, x.join(h + 1, h), h + 2);
        }
        return x;
    }

    // ---- looking

    private static void found() {
        check.sentence("LOOKING for a HEAD one goes by SEE, from one that is not FILLED to the next, each a step, till one is FILLED: FOUND");
        BackPages x = Check.of("see a b;mark a/s 1;mark b 2;see c a;see d c;");
        int[] heads = {0, 1, 0, 0};
        int[] steps = {0, 0, 1, 2};
        for (int h = 0; h < 4; h++) {
            check.due("found from " + h, x.look(h, 0), heads[h]);
            check.due("steps from " + h, x.look(h, 1), steps[h]);
        }
        x.drop(0);
        check.due("one that is filled no more", x.look(3, 0), 1);
        check.due("its steps", x.look(3, 1), 3);
        BackPages y = chain();
        for (int h = 0; h < 16; h++) {
            check.due("in the chain from " + h, y.look(h, 0), 15);
            check.due("steps in the chain from " + h, y.look(h, 1), 15 - h);
        }
    }

    private static void noneFound() {
        check.sentence("NONE, if there is no SEE or it goes round");
        BackPages x = Check.of("asked a 1;also b c;mark c 1;see d a;");
        for (int what = 0; what <= 1; what++) {
            check.due("no see", x.look(0, what), NONE);
            check.due("also is no see", x.look(1, what), NONE);
            check.due("the next has none", x.look(3, what), NONE);
        }
        BackPages round = Check.of("see a b;see b c;see c d;see d e;see e f;see f g;see g h;see h a;");
        BackPages into = Check.of("see a b;see b c;see c b;");
        for (int what = 0; what <= 1; what++) {
            for (int h = 0; h < 8; h++) {
                check.due("round from " + h, round.look(h, what), NONE);
            }
            check.due("into a round", into.look(0, what), NONE);
        }
        round.add(7, NONE, 1, 1, false);
        check.due("one of the round is filled", round.look(0, 0), 7);
        check.due("its steps", round.look(0, 1), 7);
        check.due("from itself", round.look(7, 1), 0);
        BackPages chain = chain();
        for (int k = 15; k >= 0; k--) {
            chain.drop(k);
        }
        check.due("a chain to nothing", chain.look(0, 0), NONE);
    }

    private static void fewestSteps() {
        check.sentence("STEPS from a HEAD to a PAGE: the fewest of SEE and ALSO, each a step");
        BackPages x = Check.of("see a b;see b c;mark c/s 5;also a d;also d e;also e f;mark f 5;mark f 6;");
        check.due("two by see or three by also", x.steps(0, 5), 2);
        check.due("three by also", x.steps(0, 6), 3);
        x.add(1, NONE, 5, 5, false);
        check.due("one now", x.steps(0, 5), 1);
        x.add(1, NONE, 7, 7, false);
        check.due("by the see of one that is filled", Check.of("mark a 1;see a b;mark b 2;").steps(0, 2), 1);
        check.due("by the also of one that sees", Check.of("see a b;also a c;mark c 9;").steps(0, 9), 1);
        check.due("not against the way", x.steps(2, 7), NONE);
    }

    private static void itselfAndNone() {
        check.sentence("from it to a HEAD of which some MARK (OWN or of a SUB) has that PAGE (0: it itself); NONE");
        BackPages x = Check.of("mark a 5-7;mark a/s 9;see a b;mark b 5-12;asked c 1;");
        check.due("its first page", x.steps(0, 5), 0);
        check.due("its last page", x.steps(0, 7), 0);
        check.due("between", x.steps(0, 6), 0);
        check.due("behind the last", x.steps(0, 8), 1);
        check.due("a sub's", x.steps(0, 9), 0);
        check.due("ahead of the first", x.steps(0, 4), NONE);
        check.due("behind all", x.steps(0, 13), NONE);
        check.due("from one that has nothing", x.steps(2, 5), NONE);
        check.due("round", Check.of("see a b;see b a;mark c 5;").steps(0, 5), NONE);
    }

    private static void mostSteps() {
        check.sentence("the fewest of SEE and ALSO, each a step", "as many as 16 heads can have");
        BackPages x = chain();
        for (int h = 0; h < 16; h++) {
            check.due("from " + h, x.steps(h, 1), 15 - h);
        }
        check.due("no such page", x.steps(0, 2), NONE);
        x.drop(15);
        check.due("fifteen marks left", x.steps(0, 1), 15);
        for (int k = 14; k >= 0; k--) {
            x.drop(k);
        }
        check.due("no mark left", x.steps(0, 1), NONE);
        BackPages full = Check.of("mark a1;".repeat(59) + "mark b 99;");
        check.due("the last of sixty", full.steps(1, 99), 0);
        check.due("none of sixty", full.steps(1, 98), NONE);
        full.drop(59);
        check.due("the last is gone", full.steps(1, 99), NONE);
    }

    // ---- trouble

    /** Each head has one trouble alone, but for the last two: they go round and are blind by that. */
    private static void oneOfEach() {
        check.sentence("TROUBLE: HEADS that:");
        BackPages x = Check.of("asked a 1;mark b 1;see b c;mark c 3-4;mark c/s 5;mark d 7;mark d 9;mark e 3-4;mark e/t 11;mark e/u 12;"
                + "also e a;mark f/v 13;mark f/w 14;mark g 13-14;see h i;see i h;");
        int[] due = {1 + 128 + 256, 128 + 256, 2, 8, 4, 16, 32 + 64};
        for (int what = 0; what <= 6; what++) {
            check.due("trouble " + what, x.trouble(what, 1), due[what]);
        }
        check.due("two own runs, m 2", x.trouble(3, 2), 0);
        check.due("one own run, m 0", x.trouble(3, 0), 2 + 8 + 64);
    }

    private static void blind() {
        check.sentence("0 are BLIND: not FILLED, and FOUND is NONE (also such as have nothing at all)");
        BackPages x = Check.of("asked a 1;see b a;see c d;see d c;also e f;mark f 1;see g f;mark h/s 1;see h a;");
        check.due("blind", x.trouble(0, 0), 1 + 2 + 4 + 8 + 16);
        x.add(0, NONE, 1, 1, false);
        check.due("one filled", x.trouble(0, 0), 4 + 8 + 16);
    }

    private static void round() {
        check.sentence("1 go ROUND: from which SEE upon SEE (FILLED ones, too) comes back to themselves");
        BackPages x = Check.of("see a b;see b c;see c d;see d e;see e f;see f g;see g h;see h a;mark d 1;");
        check.due("all eight", x.trouble(1, 0), 255);
        BackPages y = Check.of("see a b;see b a;see c a;see d c;see e f;also f e;mark b 1;");
        check.due("not those that lead in", y.trouble(1, 0), 3);
        check.due("a chain", chain().trouble(1, 0), 0);
    }

    private static void filledWithSee() {
        check.sentence("2 are FILLED and have a SEE");
        BackPages x = Check.of("mark a 1;see a b;mark c/s 1;see c b;see d b;mark e 1;also e b;");
        check.due("by own, by a sub", x.trouble(2, 0), 5);
        x.drop(1);
        check.due("one filled no more", x.trouble(2, 0), 1);
    }

    private static BackPages withRuns(int many) {
        BackPages x = Check.of("asked z 1;asked a 1;mark b/s 1;");
        for (int i = 0; i < many; i++) {
            x.add(1, NONE, 2 + 2 * i, 2 + 2 * i, false);
            x.add(2, NONE, 2 + 2 * i, 2 + 2 * i, false);
        }
        return x;
    }

    private static void tooManyRuns() {
        check.sentence("3 have more than m (0 .. 20) OWN RUNS, and no SUB that has MARKS");
        for (int many : new int[] {0, 1, 2, 19, 20, 21, 22}) {
            BackPages x = withRuns(many);
            for (int m = 0; m <= 20; m++) {
                check.due(many + " runs, m " + m, x.trouble(3, m), many > m ? 2 : 0);
            }
            x.drop(0);
            check.due(many + " runs, its sub without marks", x.trouble(3, 20), many > 20 ? 6 : 0);
        }
        BackPages together = Check.of("mark a 1;mark a 2;mark a 3;");
        check.due("three marks, one run", together.trouble(3, 1), 0);
    }

    private static void mAtItsBounds() {
        check.sentence("TROUBLE: the SET (m counts for 3 alone; 0 .. 20 it must be in any case)");
        BackPages x = Check.of("mark a 1;see a b;see b a;mark c/s 1;also c d;");
        int[] due = {8, 3, 1, 1, 4, 4, 5};
        for (int what = 0; what <= 6; what++) {
            check.due("what " + what + ", m 0", x.trouble(what, 0), due[what]);
            check.due("what " + what + ", m 20", x.trouble(what, 20), what == 3 ? 0 : due[what]);
            check.due("what " + what + ", m 7", x.trouble(what, 7), what == 3 ? 0 : due[what]);
            for (int m : new int[] {-1, 21, 22, LEAST, MOST}) {
                check.due("what " + what + ", m " + m, x.trouble(what, m), OUTSIDE);
            }
        }
    }

    private static void oneSubAlone() {
        check.sentence("4 have one SUB alone that has MARKS");
        BackPages x = Check.of("mark a/s 1;mark a/s 3;mark b/s 1;mark b/t 1;mark c 1;mark d 1;mark d/s 1;");
        check.due("one", x.trouble(4, 0), 1 + 8);
        x.drop(3);
        check.due("the other without marks", x.trouble(4, 0), 1 + 2 + 8);
        x.drop(0);
        check.due("one mark of two gone", x.trouble(4, 0), 1 + 2 + 8);
        x.drop(0);
        check.due("both gone", x.trouble(4, 0), 2 + 8);
        BackPages last = Check.of("mark a/a 1;mark a/b 1;mark a/c 1;mark a/d 1;mark a/e 1;mark a/f 1;");
        check.due("six", last.trouble(4, 0), 0);
        for (int k = 0; k < 5; k++) {
            last.drop(0);
        }
        check.due("the sixth alone", last.trouble(4, 0), 1);
    }

    private static void alsoOneNotFilled() {
        check.sentence("5 have ALSO one that is not FILLED");
        BackPages x = Check.of("also a b;also a c;mark b 1;mark c/s 1;also d e;see e b;mark d 1;see f e;");
        check.due("d's", x.trouble(5, 0), 8);
        x.drop(1);
        check.due("one of two", x.trouble(5, 0), 9);
    }

    private static void justThePages() {
        check.sentence("6 are FILLED with just the PAGES of another one (all MARKS)");
        BackPages x = Check.of("mark a 1-4;mark b/s 1-2 main;mark b/t 3;mark b 3-4;asked c 1;asked d 1;mark e 1-3;mark f 1-5;");
        check.due("a and b", x.trouble(6, 0), 3);
        x.add(4, NONE, 4, 4, false);
        check.due("one page more", x.trouble(6, 0), 3 + 16);
        x.add(1, 0, 99, 99, false);
        check.due("another one", x.trouble(6, 0), 1 + 16);
        x.add(5, NONE, 6, 99, false);
        x.add(2, NONE, 1, 99, false);
        check.due("all pages", x.trouble(6, 0), 1 + 16 + 4 + 32);
        BackPages pages = Check.of("mark a 63;mark b 64;mark c 65;mark d 1;mark e 99;");
        check.due("five unlike ones", pages.trouble(6, 0), 0);
        pages.takeOut(64, 64);
        check.due("65 is 64, and 64 is gone", pages.trouble(6, 0), 0);
        pages.add(1, NONE, 64, 64, true);
        check.due("two of 64", pages.trouble(6, 0), 6);
        StringBuilder text = new StringBuilder();
        for (int h = 0; h < 16; h++) {
            text.append("mark ").append((char) ('a' + h)).append(' ').append(60 + h).append(';');
        }
        BackPages sixteen = Check.of(text.toString());
        check.due("16 unlike ones", sixteen.trouble(6, 0), 0);
        sixteen.add(15, NONE, 60, 60, false);
        sixteen.add(0, NONE, 75, 75, false);
        check.due("the first and the last", sixteen.trouble(6, 0), 1 + 32768);
        check.due("none filled", Check.of("asked a 1;asked b 1;").trouble(6, 0), 0);
        check.due("one alone", Check.of("mark a 1;").trouble(6, 0), 0);
    }

    private static void wholeSets() {
        check.sentence("A SET is a whole number, bit k for HEAD k");
        check.due("16 blind", Check.of(heads(16, "asked", " 1;")).trouble(0, 0), 65535);
        check.due("16 of like pages", Check.of(heads(16, "mark", " 1;")).trouble(6, 0), 65535);
        check.due("16 with one run", Check.of(heads(16, "mark", " 1;")).trouble(3, 0), 65535);
        check.due("16 with one sub", Check.of(heads(16, "mark", "/s 1;")).trouble(4, 0), 65535);
        BackPages x = Check.of(heads(15, "asked", " 1;") + "also a p;mark p 1;see p a;also p a;");
        check.due("also bit 15", x.head(0, 3), 32768);
        check.due("filled with a see, bit 15", x.trouble(2, 0), 32768);
        check.due("also of one not filled, bit 15", x.trouble(5, 0), 32768);
        check.due("of none", new BackPages().trouble(0, 0), 0);
    }

    // ---- promises 18 to 21

    private static void lookBounds() {
        check.sentence("FOUND from a HEAD: what = 0 the HEAD, 1 how many steps; NONE. UNKNOWN, OUTSIDE");
        BackPages x = chain();
        for (int h : new int[] {-1, 16, LEAST, MOST}) {
            check.due("head " + h, x.look(h, 0), UNKNOWN);
            check.due("head " + h + " and what 2", x.look(h, 2), UNKNOWN);
            check.due("head " + h + " and what -1", x.look(h, -1), UNKNOWN);
        }
        for (int what : new int[] {-1, 2, LEAST, MOST}) {
            check.due("what " + what, x.look(0, what), OUTSIDE);
            check.due("what " + what + " of one blind", Check.of("asked a 1;").look(0, what), OUTSIDE);
        }
        check.due("of none", new BackPages().look(0, 0), UNKNOWN);
    }

    private static void stepsBounds() {
        check.sentence("STEPS from a HEAD to a PAGE; NONE. UNKNOWN, OUTSIDE");
        BackPages x = Check.of("mark a 1-99;asked b 1;");
        check.due("page 1", x.steps(0, 1), 0);
        check.due("page 99", x.steps(0, 99), 0);
        for (int page : new int[] {0, 100, -1, LEAST, MOST}) {
            check.due("page " + page, x.steps(0, page), OUTSIDE);
            check.due("page " + page + " from one blind", x.steps(1, page), OUTSIDE);
        }
        for (int h : new int[] {-1, 2, LEAST, MOST}) {
            check.due("head " + h, x.steps(h, 1), UNKNOWN);
            check.due("head " + h + " and page 0", x.steps(h, 0), UNKNOWN);
            check.due("head " + h + " and page 100", x.steps(h, 100), UNKNOWN);
        }
        check.due("of none", new BackPages().steps(0, 1), UNKNOWN);
    }

    private static void findsBounds() {
        check.sentence("in k (0 .. 9) STEPS or fewer. UNKNOWN, OUTSIDE");
        BackPages x = chain();
        for (int k = 0; k <= 9; k++) {
            check.due("just so many steps, " + k, x.finds(15 - k, k), 1);
            check.due("one more, " + k, x.finds(14 - k, k), 0);
        }
        for (int k : new int[] {-1, 10, LEAST, MOST}) {
            check.due("k " + k, x.finds(15, k), OUTSIDE);
        }
        for (int h : new int[] {-1, 16, LEAST, MOST}) {
            check.due("head " + h, x.finds(h, 0), UNKNOWN);
            check.due("head " + h + " and k 10", x.finds(h, 10), UNKNOWN);
            check.due("head " + h + " and k -1", x.finds(h, -1), UNKNOWN);
        }
        check.due("of none", new BackPages().finds(0, 0), UNKNOWN);
    }

    private static void findsUnlike() {
        check.sentence("How many unlike PAGES are come to from a HEAD");
        BackPages x = Check.of("mark a 1-3;mark a 3;mark a/s 2-5;also a b;mark b 5-6;see b c;mark c 99;mark c 63-65;");
        int[] due = {5, 6, 10, 10};
        for (int k = 0; k <= 3; k++) {
            check.due("k " + k, x.finds(0, k), due[k]);
        }
        x.drop(0);
        check.due("without 1", x.finds(0, 0), 4);
        x.drop(1);
        check.due("3 alone", x.finds(0, 0), 1);
        x.drop(0);
        check.due("none left", x.finds(0, 0), 0);
        check.due("high ones of three", Check.of("mark a 97;see a b;mark b 98;also a c;mark c 99;").finds(0, 1), 3);
        check.due("low ones of three", Check.of("mark a 1;see a b;mark b 2;also a c;mark c 3;").finds(0, 1), 3);
        check.due("none", Check.of("asked a 1;").finds(0, 9), 0);
        BackPages sixteen = Check.of(heads(16, "mark", " 1;") + heads(16, "mark", " 99;"));
        for (int h = 0; h < 16; h++) {
            check.due("pages of " + h, sixteen.finds(h, 0), 2);
        }
        sixteen.takeOut(1, 98);
        for (int h = 0; h < 16; h++) {
            check.due("one page of " + h, sixteen.finds(h, 0), 1);
        }
        check.due("all have just page 1", sixteen.trouble(6, 0), 65535);
        sixteen.drop(15);
        check.due("the last has none", sixteen.finds(15, 0), 0);
        check.due("all others have", sixteen.trouble(6, 0), 32767);
        sixteen.takeOut(1, 1);
        check.due("none has", sixteen.finds(7, 9), 0);
        check.due("all", Check.of("mark a 1-99;").finds(0, 0), 99);
        check.due("all of two", Check.of("mark a 1-64;see a b;mark b 64-99;").finds(0, 1), 99);
        check.due("one of them", Check.of("mark a 1-64;see a b;mark b 64-99;").finds(1, 1), 36);
        for (int p = 1; p <= 99; p++) {
            BackPages y = Check.of("mark a " + p + ";");
            check.due("page " + p + " alone", y.finds(0, 0), 1);
        }
    }

    private static void troubleBounds() {
        check.sentence("0 .. 20 it must be in any case). OUTSIDE.");
        BackPages x = Check.of("mark a 1;");
        for (int what : new int[] {-1, 7, 8, LEAST, MOST}) {
            check.due("what " + what, x.trouble(what, 0), OUTSIDE);
            check.due("what " + what + " and m 21", x.trouble(what, 21), OUTSIDE);
            check.due("of none, what " + what, new BackPages().trouble(what, 0), OUTSIDE);
        }
        for (int what = 0; what <= 6; what++) {
            check.due("of none, what " + what, new BackPages().trouble(what, 0), 0);
            check.due("of none, what " + what + " and m -1", new BackPages().trouble(what, -1), OUTSIDE);
        }
    }
}
