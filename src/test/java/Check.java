/** Counts what is as it is due, and prints what is not. */
final class Check {
    static final Class<?> INDEX = IndexOutOfBoundsException.class;
    static final Class<?> ARGUMENT = IllegalArgumentException.class;
    static final Class<?> STATE = IllegalStateException.class;
    static final Class<?> UNSUPPORTED = UnsupportedOperationException.class;
    static final Class<?> NO_ELEMENT = java.util.NoSuchElementException.class;
    static final Class<?> ARITHMETIC = ArithmeticException.class;

    private static int passed;
    private static int failed;

    private Check() { }

    interface Call {
        void make();
    }

    static void same(String what, double got, double due) {
        if (got == due) {
            passed++;
        } else {
            failed++;
            System.out.println(what + " is " + got + ", due is " + due);
        }
    }

    static void holds(String what, boolean is) {
        same(what, is ? 1 : 0, 1);
    }

    static void refuses(String what, Class<?> due, Call call) {
        Class<?> got = null;
        try {
            call.make();
        } catch (RuntimeException e) {
            got = e.getClass();
        }
        if (got == due) {
            passed++;
        } else {
            failed++;
            System.out.println(what + " throws " + got + ", due is " + due);
        }
    }

    /** The first numbers about a node: up, role, term, vote, commit index, last index .. */
    static void node(String when, QuorumLog x, int node, int... due) {
        for (int what = 0; what < due.length; what++) {
            same(when + ": node(" + node + ", " + what + ")", x.node(node, what), due[what]);
        }
    }

    /** Kind, sender, receiver, term, due time and the two other parts of a message. */
    static void message(String when, QuorumLog x, int i, int... due) {
        for (int what = 0; what < due.length; what++) {
            same(when + ": message(" + i + ", " + what + ")", x.message(i, what), due[what]);
        }
    }

    static void log(String when, QuorumLog x, int node, String due) {
        StringBuilder got = new StringBuilder();
        int length = x.write(node);
        for (int i = 0; i < length; i++) {
            got.append(x.text(i));
        }
        holds(when + ": the log of " + node + " is \"" + got + "\", due is \"" + due + "\"",
                due.equals(got.toString()));
    }

    static void feed(QuorumLog x, String text) {
        for (int i = 0; i < text.length(); i++) {
            x.feed(text.charAt(i));
        }
    }

    static int perform(QuorumLog x, String text) {
        feed(x, text);
        return x.perform();
    }

    static QuorumLog started(int members, int seed) {
        QuorumLog x = new QuorumLog();
        x.start(members, seed);
        return x;
    }

    static void end(String name) {
        System.out.println(name + ": " + passed + " answers as due, " + failed + " wrong");
        System.exit(failed == 0 && passed > 0 ? 0 : 1);
    }
}
