import java.util.function.Consumer;
import java.util.function.Supplier;
import java.util.function.ToIntFunction;

/**
 * "REFUSALS, of several the first in this order: UNKNOWN, OUTSIDE, NOT, FULL. What is refused changes nothing."
 * Each refused call is made of one of two objects that are made alike; all that can be seen of both is compared then.
 */
public final class RefusalTest {
    private static final Check check = new Check();
    private static final int NONE = BackPages.NONE, UNKNOWN = BackPages.UNKNOWN, OUTSIDE = BackPages.OUTSIDE;
    private static final int NOT = BackPages.NOT, FULL = BackPages.FULL, LEAST = Integer.MIN_VALUE, MOST = Integer.MAX_VALUE;

    private final Supplier<BackPages> maker;
    private final String view;

    private RefusalTest(Supplier<BackPages> maker) {
        this.maker = maker;
        view = View.of(maker.get());
    }

    public static void main(String[] args) {
        check.sentence("What is refused changes nothing");
        RefusalTest some = new RefusalTest(RefusalTest::some);
        some.ofHeads();
        check.sentence("OUTSIDE (another number out of its bounds)");
        some.ofNumbers();
        some.ofPages();
        some.ofTheRest();
        check.sentence("REFUSALS, of several the first in this order");
        some.ofSeveral();
        check.sentence("NOT (not now, as told)");
        some.notNow();
        check.sentence("UNKNOWN (a HEAD, SUB, MARK, PAIR, IMAGE that there is not", "a new object");
        new RefusalTest(BackPages::new).ofNone();
        check.sentence("NOT (not now, as told), FULL");
        full();
        check.sentence("What is refused changes nothing", "what answers NONE neither");
        some.notSoMany();
        check.sentence("What is refused changes nothing", "what only asks neither");
        some.asking();
        check.sentence("What is refused changes nothing", "what is not refused does");
        some.changes();
        check.end();
    }

    /**
     * ab 0 (sub s, marks 0 and 1), c 1 sees ab, d 2 also c, e 3 (sub t, mark 2), f 4 sees nothing; two images, two pairs,
     * a fault, a text that is not yet read.
     */
    private static BackPages some() {
        BackPages x = Check.of("mark ab/s 5 main;mark ab 7-8;see c ab;also d c;asked c 9;mark e/t 2-4;asked f 3;");
        x.keep(0);
        x.add(3, NONE, 95, 95, false);
        x.keep(1);
        x.drop(0);
        x.add(0, 0, 6, 6, true);
        x.order(1);
        x.width(25);
        x.saw(3, 5);
        x.saw(4, 7);
        Check.feed(x, "mark 5;");
        x.read();
        Check.feed(x, "see x y;");
        return x;
    }

    private void refused(String call, ToIntFunction<BackPages> of, int due) {
        BackPages x = maker.get();
        check.due(call, of.applyAsInt(x), due);
        check.due("all after " + call, View.of(x), view);
    }

    private void unknown(String call, ToIntFunction<BackPages> of) {
        refused(call, of, UNKNOWN);
    }

    private void outside(String call, ToIntFunction<BackPages> of) {
        refused(call, of, OUTSIDE);
    }

    private void ofHeads() {
        for (int h : new int[] {-1, -2, 5, 6, 16, 32, LEAST, MOST}) {
            unknown("head " + h, x -> x.head(h, 0));
            unknown("name " + h, x -> x.name(h, NONE, 0));
            unknown("name " + h + " sub 0", x -> x.name(h, 0, 0));
            unknown("add " + h, x -> x.add(h, NONE, 1, 1, true));
            unknown("asked " + h, x -> x.asked(h, 5));
            unknown("run " + h, x -> x.run(h, NONE, NONE, 0));
            unknown("subAt " + h, x -> x.subAt(h, 0));
            unknown("look " + h, x -> x.look(h, 0));
            unknown("steps " + h, x -> x.steps(h, 5));
            unknown("finds " + h, x -> x.finds(h, 5));
            if (h != NONE) {
                unknown("fit " + h, x -> x.fit(5, h));
            }
            unknown("near " + h, x -> x.near(h, 0));
            unknown("near of " + h, x -> x.near(0, h));
            unknown("join " + h, x -> x.join(h, 0));
            unknown("join of " + h, x -> x.join(0, h));
        }
        for (int h = 0; h < 5; h++) {
            int one = h;
            unknown("near twice " + h, x -> x.near(one, one));
            unknown("join twice " + h, x -> x.join(one, one));
        }
        for (int sub : new int[] {-2, 1, 6, LEAST, MOST}) {
            unknown("name of sub " + sub, x -> x.name(0, sub, 0));
            unknown("add to sub " + sub, x -> x.add(0, sub, 1, 1, false));
            unknown("run of sub " + sub, x -> x.run(0, sub, NONE, 0));
        }
        unknown("name of sub 0", x -> x.name(1, 0, 0));
        unknown("add to sub 0", x -> x.add(1, 0, 1, 1, false));
        unknown("run of sub 0", x -> x.run(1, 0, NONE, 0));
        for (int k : new int[] {-1, 4, 60, LEAST, MOST}) {
            unknown("mark " + k, x -> x.mark(k, 0));
            unknown("drop " + k, x -> x.drop(k));
        }
        for (int set : new int[] {32, 33, 34, 65536, -1, LEAST, MOST}) {
            unknown("posted " + set, x -> x.posted(set));
        }
        for (int i : new int[] {-2, 2, 20, LEAST, MOST}) {
            unknown("story of pair " + i, x -> x.story(5, i));
        }
        for (int i : new int[] {-1, 2, LEAST, MOST}) {
            unknown("stale " + i, x -> x.stale(i));
            unknown("keep " + i, x -> x.keep(i));
            unknown("goBack " + i, x -> x.goBack(i));
        }
    }

    private void ofNumbers() {
        for (int n : new int[] {0, 9, -1, LEAST, MOST}) {
            outside("feed " + n, x -> x.feed(n, 0x2020202020202020L));
        }
        for (int what : new int[] {-1, 7, LEAST, MOST}) {
            outside("count " + what, x -> x.count(what));
            outside("head " + what, x -> x.head(0, what));
            outside("trouble " + what, x -> x.trouble(what, 0));
        }
        for (int what : new int[] {-1, 5, LEAST, MOST}) {
            outside("mark " + what, x -> x.mark(0, what));
        }
        for (int what : new int[] {-1, 3, LEAST, MOST}) {
            outside("run " + what, x -> x.run(0, NONE, 0, what));
            outside("how many runs " + what, x -> x.run(0, NONE, NONE, what));
            outside("posting " + what, x -> x.posting(9, what));
        }
        for (int what : new int[] {-1, 2, LEAST, MOST}) {
            outside("look " + what, x -> x.look(0, what));
            outside("order " + what, x -> x.order(what));
        }
        for (int v : new int[] {-1, 100, LEAST, MOST}) {
            outside("asked " + v, x -> x.asked(0, v));
        }
        for (int v : new int[] {19, 81, LEAST, MOST}) {
            outside("width " + v, x -> x.width(v));
        }
        for (int m : new int[] {-1, 21, LEAST, MOST}) {
            outside("trouble m " + m, x -> x.trouble(3, m));
            outside("story c " + m, x -> x.story(m, NONE));
            outside("story c " + m + " of pair 0", x -> x.story(m, 0));
        }
        for (int k : new int[] {-1, 10, LEAST, MOST}) {
            outside("finds " + k, x -> x.finds(0, k));
        }
    }

    private void ofPages() {
        for (int page : new int[] {0, 100, -1, LEAST, MOST}) {
            outside("add from " + page, x -> x.add(0, NONE, page, 50, false));
            outside("add to " + page, x -> x.add(0, 0, 50, page, false));
            outside("steps to " + page, x -> x.steps(0, page));
            outside("takeOut from " + page, x -> x.takeOut(page, 50));
            outside("takeOut to " + page, x -> x.takeOut(50, page));
            outside("saw " + page, x -> x.saw(page, 50));
        }
        outside("add 5 to 4", x -> x.add(0, NONE, 5, 4, false));
        outside("takeOut 5 to 4", x -> x.takeOut(5, 4));
        for (int p : new int[] {-1, 100, LEAST, MOST}) {
            outside("putIn behind " + p, x -> x.putIn(p, 1));
        }
        for (int n : new int[] {0, 10, LEAST, MOST}) {
            outside("putIn of " + n, x -> x.putIn(50, n));
        }
        for (int v : new int[] {0, 200, LEAST, MOST}) {
            outside("saw 50 and " + v, x -> x.saw(50, v));
        }
    }

    private void ofTheRest() {
        for (int n : new int[] {-1, 1000, LEAST, MOST}) {
            outside("posting within " + n, x -> x.posting(n, 0));
        }
        for (int n : new int[] {-1, 201, LEAST, MOST}) {
            outside("fit into " + n, x -> x.fit(n, NONE));
            outside("fit into " + n + " of head 0", x -> x.fit(n, 0));
        }
    }

    /** Of several refusals the first in the document's order. */
    private void ofSeveral() {
        unknown("head 5, what 7", x -> x.head(5, 7));
        unknown("mark 4, what 5", x -> x.mark(4, 5));
        unknown("add to head 5, page 0", x -> x.add(5, NONE, 0, 0, false));
        unknown("add to sub 1, q below p", x -> x.add(0, 1, 5, 4, false));
        unknown("asked head 5, 100", x -> x.asked(5, 100));
        unknown("run of head 5, what 3", x -> x.run(5, NONE, 0, 3));
        unknown("run of sub 1, what 3", x -> x.run(0, 1, NONE, 3));
        unknown("look from head 5, what 2", x -> x.look(5, 2));
        unknown("steps from head 5, page 0", x -> x.steps(5, 0));
        unknown("finds from head 5, k 10", x -> x.finds(5, 10));
        unknown("posted of head 5 and of ab", x -> x.posted(33));
        unknown("fit into 201 of head 5", x -> x.fit(201, 5));
        unknown("story by 21 of pair 2", x -> x.story(21, 2));
        unknown("join of head 5 to c, that has a see", x -> x.join(1, 5));
        unknown("join of c to itself, that has a see", x -> x.join(1, 1));
        outside("putIn where it is NOT, of 10", x -> x.putIn(0, 10));
        outside("saw where it is NOT, 200", x -> x.saw(4, 200));
        outside("saw where it is NOT, 0", x -> x.saw(0, 5));
        outside("trouble 7, m 21", x -> x.trouble(7, 21));
        outside("posting within 1000, what 3", x -> x.posting(1000, 3));
    }

    private void notNow() {
        refused("posted of ab, that is filled", x -> x.posted(1), NOT);
        refused("posted of d, that is blind", x -> x.posted(4), NOT);
        refused("posted of c and d", x -> x.posted(6), NOT);
        refused("putIn: 95 and 5", x -> x.putIn(0, 5), NOT);
        refused("putIn behind 94", x -> x.putIn(94, 9), NOT);
        refused("saw the same page", x -> x.saw(4, 7), NOT);
        refused("saw an earlier page", x -> x.saw(1, 7), NOT);
        refused("join to c, that has a see", x -> x.join(1, 3), NOT);
    }

    private void ofNone() {
        for (int i = 0; i < 2; i++) {
            int image = i;
            refused("stale " + i, x -> x.stale(image), NOT);
            refused("goBack " + i, x -> x.goBack(image), NOT);
        }
        unknown("head", x -> x.head(0, 0));
        unknown("name", x -> x.name(0, NONE, NONE));
        unknown("mark", x -> x.mark(0, 0));
        unknown("add", x -> x.add(0, NONE, 1, 1, false));
        unknown("drop", x -> x.drop(0));
        unknown("asked", x -> x.asked(0, 0));
        unknown("run", x -> x.run(0, NONE, NONE, 0));
        unknown("subAt", x -> x.subAt(0, 0));
        unknown("look", x -> x.look(0, 0));
        unknown("steps", x -> x.steps(0, 1));
        unknown("finds", x -> x.finds(0, 0));
        unknown("posted", x -> x.posted(1));
        unknown("fit", x -> x.fit(0, 0));
        unknown("story", x -> x.story(0, 0));
        unknown("near", x -> x.near(0, 1));
        unknown("join", x -> x.join(0, 1));
    }

    private static BackPages withText(int bytes) {
        BackPages x = Check.of("mark a 5;");
        Check.feed(x, " ".repeat(bytes - 1) + ";");
        return x;
    }

    private static BackPages withPairs() {
        BackPages x = new BackPages();
        for (int i = 1; i <= 20; i++) {
            x.saw(i, i + i % 3);
        }
        return x;
    }

    private static void full() {
        RefusalTest text = new RefusalTest(() -> withText(600));
        text.refused("feed of 1 to 600", x -> x.feed(1, ' '), FULL);
        text.refused("feed of 8 to 600", x -> x.feed(8, ' '), FULL);
        text.outside("feed of 9 to 600", x -> x.feed(9, ' '));
        text.outside("feed of 0 to 600", x -> x.feed(0, ' '));
        RefusalTest nearly = new RefusalTest(() -> withText(595));
        nearly.refused("feed of 6 to 595", x -> x.feed(6, 0x202020202020L), FULL);
        nearly.refused("feed of 8 to 595", x -> x.feed(8, 0x2020202020202020L), FULL);
        RefusalTest marks = new RefusalTest(() -> Check.of("mark a1;".repeat(58) + "mark b/s 2;mark b 3;"));
        marks.refused("add a 61st", x -> x.add(0, NONE, 5, 5, true), FULL);
        marks.refused("add a 61st to a sub", x -> x.add(1, 0, 5, 5, false), FULL);
        marks.outside("add a 61st of page 0", x -> x.add(0, NONE, 0, 5, true));
        marks.outside("add a 61st, q below p", x -> x.add(0, NONE, 5, 4, true));
        marks.unknown("add a 61st to head 2", x -> x.add(2, NONE, 5, 5, true));
        RefusalTest pairs = new RefusalTest(RefusalTest::withPairs);
        pairs.refused("saw a 21st", x -> x.saw(21, 1), FULL);
        pairs.refused("saw a 21st that is not later", x -> x.saw(20, 1), NOT);
        pairs.outside("saw a 21st of 200", x -> x.saw(21, 200));
        pairs.unknown("story of pair 20", x -> x.story(1, 20));
        RefusalTest subs = new RefusalTest(() -> Check.of("mark a/p 1;mark a/q 2;mark a/r 3;mark a/s 4;mark a/t 5;mark a/u 6;"
                + "mark b/p 7;mark b/v 8;mark b 9;also b c;asked b 9;see c b;see d c;"));
        subs.refused("join with a seventh sub", x -> x.join(0, 1), FULL);
        subs.refused("join with a seventh sub to b", x -> x.join(1, 0), FULL);
        subs.refused("join to one that has a see", x -> x.join(2, 0), NOT);
        subs.unknown("join to itself", x -> x.join(0, 0));
    }

    private void notSoMany() {
        for (int i : new int[] {-2, 12, LEAST, MOST}) {
            refused("name " + i, x -> x.name(0, NONE, i), NONE);
            refused("run " + i, x -> x.run(0, NONE, i, 0), NONE);
        }
        for (int i : new int[] {-1, 5, LEAST, MOST}) {
            refused("at " + i, x -> x.at(i), NONE);
            refused("subAt " + i, x -> x.subAt(0, i), NONE);
        }
        for (int i : new int[] {-1, 1000, LEAST, MOST}) {
            refused("print " + i, x -> x.print(i), NONE);
        }
        refused("look from one blind", x -> x.look(4, 0), NONE);
        refused("steps to no page", x -> x.steps(0, 50), NONE);
        refused("posting within 0", x -> x.posting(0, 0), NONE);
    }

    private void asking() {
        refused("fault", BackPages::fault, 5);
        refused("count 4", x -> x.count(4), 7);
        refused("head 0 6", x -> x.head(0, 6), 2);
        refused("name", x -> x.name(0, NONE, 1), 'b');
        refused("mark", x -> x.mark(3, 2), 6);
        refused("run", x -> x.run(0, NONE, 0, 1), 8);
        refused("at", x -> x.at(4), 4);
        refused("subAt", x -> x.subAt(3, 0), 0);
        refused("print", x -> x.print(2), ',');
        refused("look", x -> x.look(1, 0), 0);
        refused("steps", x -> x.steps(2, 6), 2);
        refused("finds", x -> x.finds(2, 9), 3);
        refused("trouble 0", x -> x.trouble(0, 0), 4 + 16);
        refused("trouble 3", x -> x.trouble(3, 0), 0);
        refused("trouble 6", x -> x.trouble(6, 20), 0);
        refused("posted", x -> x.posted(2), 8);
        refused("posting", x -> x.posting(9, 0), 2);
        refused("fit", x -> x.fit(5, NONE), 2);
        refused("stale", x -> x.stale(0), 1);
        refused("story", x -> x.story(20, NONE), 1);
        refused("near", x -> x.near(1, 2), 3);
    }

    private void changed(String call, Consumer<BackPages> of) {
        BackPages x = maker.get();
        of.accept(x);
        check.due(call + " can be seen", View.of(x).equals(view) ? 0 : 1, 1);
    }

    /** That the view would show it: each call that is not refused changes it. */
    private void changes() {
        changed("feed", x -> x.feed(1, ';'));
        changed("read", BackPages::read);
        changed("add", x -> x.add(4, NONE, 1, 1, false));
        changed("add of a page that is there", x -> x.add(0, NONE, 7, 7, false));
        changed("drop", x -> x.drop(0));
        changed("asked", x -> x.asked(4, 4));
        changed("order", x -> x.order(0));
        changed("width", x -> x.width(26));
        changed("putIn", x -> x.putIn(94, 4));
        changed("takeOut", x -> x.takeOut(1, 1));
        changed("saw", x -> x.saw(5, 8));
        changed("forget", BackPages::forget);
        changed("join", x -> x.join(2, 4));
        changed("keep 0", x -> x.keep(0));
        changed("keep 1", x -> x.keep(1));
        changed("goBack 0", x -> x.goBack(0));
        changed("goBack 1", x -> x.goBack(1));
    }
}
