import java.util.ArrayList;
import java.util.List;

/**
 * Everything that can be seen of an object after a run of calls. Each part is asked of an object
 * of its own, which has been through the same run, as an object is promised for 512 calls only.
 */
final class Looks {
    /** Calls that bring a new object into a state. */
    interface Run {
        void on(Face x);
    }

    interface Maker {
        Face make();
    }

    interface Ask {
        double of();
    }

    private static final int LETTERS = 250;
    private static final int LONGEST_TEXT = 500;

    private final Maker maker;
    private final Run before;
    private final List<String> seen = new ArrayList<>();
    private Face x;

    private Looks(Maker maker, Run before) {
        this.maker = maker;
        this.before = before;
    }

    /** What is seen at once, and what comes of it later. */
    static List<String> of(Maker maker, Run before) {
        Looks looks = new Looks(maker, before);
        looks.nodes();
        looks.pairs();
        looks.entries();
        looks.messages();
        looks.numbers();
        looks.texts();
        looks.links();
        looks.script();
        looks.saved();
        looks.later(1);
        looks.later(3);
        looks.later(60);
        return looks.seen;
    }

    /** The first part that differs, or null. */
    static String difference(List<String> got, List<String> due) {
        for (int i = 0; i < Math.min(got.size(), due.size()); i++) {
            if (!got.get(i).equals(due.get(i))) {
                return got.get(i) + ", due is " + due.get(i);
            }
        }
        return got.size() == due.size() ? null : "there is more to be seen, or less";
    }

    static String outcome(Ask ask) {
        try {
            return "" + ask.of();
        } catch (RuntimeException e) {
            Class<?> kind = e.getClass();
            return kind.getName();
        }
    }

    private void again() {
        x = maker.make();
        before.on(x);
    }

    private void ask(String name, Ask ask) {
        seen.add(name + " is " + outcome(ask));
    }

    private void nodes() {
        again();
        askNodes();
        for (int n = -1; n <= 5; n++) {
            int node = n;
            ask("read(" + n + ")", () -> x.read(node));
            ask("share(" + n + ")", () -> x.share(node));
        }
    }

    private void askNodes() {
        for (int n = -1; n <= 5; n++) {
            for (int k = -1; k <= 14; k++) {
                int node = n;
                int what = k;
                ask("node(" + n + ", " + k + ")", () -> x.node(node, what));
            }
        }
    }

    private void pairs() {
        again();
        for (int n = -1; n <= 5; n++) {
            for (int p = -1; p <= 5; p++) {
                int node = n;
                int other = p;
                ask("alike(" + n + ", " + p + ")", () -> x.alike(node, other));
                for (int k = -1; k <= 3; k++) {
                    int what = k;
                    ask("noted(" + n + ", " + p + ", " + k + ")", () -> x.noted(node, other, what));
                }
            }
        }
    }

    private void entries() {
        for (int n = 0; n < 5; n++) {
            again();
            int node = n;
            int last = x.node(n, 5);
            for (int i = x.node(n, 7) - 1; i <= last + 1; i++) {
                int index = i;
                for (int k = -1; k <= 3; k++) {
                    int what = k;
                    ask("entry(" + n + ", " + i + ", " + k + ")", () -> x.entry(node, index, what));
                }
            }
        }
    }

    private void messages() {
        for (int from = -1; from <= 40; from += 21) {
            again();
            ask("messages()", () -> x.messages());
            int end = Math.min(from + 21, x.messages() + 1);
            for (int m = from; m < end; m++) {
                for (int k = -1; k <= 7; k++) {
                    int i = m;
                    int what = k;
                    ask("message(" + m + ", " + k + ")", () -> x.message(i, what));
                }
            }
        }
    }

    private void numbers() {
        again();
        for (int k = -1; k <= 7; k++) {
            int what = k;
            ask("statistic(" + k + ")", () -> x.statistic(what));
        }
        for (int t = -1; t <= 101; t++) {
            int term = t;
            ask("winner(" + t + ")", () -> x.winner(term));
        }
        ask("leader()", () -> x.leader());
    }

    /** The text that was written last, and then those of all logs. */
    private void texts() {
        askLetters("the text", -1);
        for (int n = 0; n < 5; n++) {
            askLetters("the log of " + n, n);
        }
    }

    private void askLetters(String name, int node) {
        StringBuilder text = new StringBuilder();
        for (int from = 0; from < LONGEST_TEXT && text.length() == from; from += LETTERS) {
            again();
            if (node >= 0) {
                int length = x.write(node);
                seen.add("write(" + node + ") is " + length);
            }
            String letter = "";
            for (int k = from; k < from + LETTERS && !letter.startsWith("java"); k++) {
                int i = k;
                letter = outcome(() -> x.text(i));
                if (!letter.startsWith("java")) {
                    text.append((char) Double.parseDouble(letter));
                }
            }
        }
        seen.add(name + " is '" + text + "'");
    }

    private void links() {
        again();
        ask("setDelay(1)", () -> x.setDelay(1));
        for (int n = 0; n < 5; n++) {
            for (int p = 0; p < 5; p++) {
                int one = n;
                int other = p;
                ask("setLink(" + n + ", " + p + ")", () -> x.setLink(one, other, false) ? 1 : 0);
            }
        }
    }

    private void script() {
        again();
        ask("perform()", () -> x.perform());
        ask("feed('t')", () -> x.feed('t'));
        askNodes();
    }

    private void saved() {
        again();
        ask("restore()", () -> x.restore());
        ask("statistic(0)", () -> x.statistic(0));
        askNodes();
    }

    private void later(int ticks) {
        again();
        ask("tick(" + ticks + ")", () -> x.tick(ticks));
        askNodes();
        for (int k = 0; k <= 6; k++) {
            int what = k;
            ask("statistic(" + k + ")", () -> x.statistic(what));
        }
    }
}
