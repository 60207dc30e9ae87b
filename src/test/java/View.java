import java.util.ArrayList;
import java.util.List;

/** All that can be seen of an object, as a text to compare; looking so deep changes it, so that it is spent then. */
final class View {
    private View() {
    }

    static String of(BackPages x) {
        String text = "fault " + x.fault() + ", bytes " + x.count(2);
        return text + "\n" + besideText(x) + "\nits text read: " + x.read() + " " + x.fault() + " " + x.count(0) + "\n" + told(x);
    }

    /** Without the text and its fault. */
    static String besideText(BackPages x) {
        StringBuilder out = new StringBuilder();
        out.append(told(x)).append("\nprinted\n").append(Check.printed(x));
        for (int what : new int[] {3, 4, 5, 6}) {
            out.append("count ").append(what).append(" is ").append(x.count(what)).append("\n");
        }
        out.append("order ").append(x.order(0)).append(", width ").append(x.width(30)).append("\n");
        out.append(pairs(x)).append("\n");
        for (int i = 0; i < 2; i++) {
            out.append("image ").append(i).append(" stale ").append(x.stale(i)).append("\n");
        }
        // an image is seen by going back to it, and what is so is lost then: that goes last
        for (int i = 0; i < 2; i++) {
            if (x.goBack(i) == 1) {
                out.append("image ").append(i).append("\n").append(told(x)).append("\n");
            }
        }
        return out.toString();
    }

    /** Heads, marks and what is told of them. */
    static String told(BackPages x) {
        return heads(x) + Check.marks(x);
    }

    /** Heads, and what is told of them, a line each. */
    static String heads(BackPages x) {
        StringBuilder out = new StringBuilder();
        int heads = x.count(0);
        for (int h = 0; h < heads; h++) {
            out.append(Check.name(x, h, BackPages.NONE)).append(" see ").append(x.head(h, 2)).append(" also ")
                    .append(x.head(h, 3)).append(" asked ").append(x.head(h, 4)).append(" subs");
            int subs = x.head(h, 0);
            for (int sub = 0; sub < subs; sub++) {
                out.append(' ').append(Check.name(x, h, sub));
            }
            out.append('\n');
        }
        return out.toString();
    }

    private static String pairs(BackPages x) {
        int size = x.count(3);
        List<String> out = new ArrayList<>();
        for (int c : new int[] {0, 1, 2, 20}) {
            out.add("story by " + c + " " + x.story(c, BackPages.NONE));
        }
        for (int i = 0; i < size; i++) {
            out.add(x.story(1, i) + "" + x.story(2, i));
        }
        int later = 1;
        while (later < 99 && x.saw(later, 1) == BackPages.NOT) {
            later++;
        }
        out.add("later than the last: " + later);
        return String.join(" ", out);
    }
}
