import java.io.IOException;
import java.nio.charset.StandardCharsets;
import java.nio.file.Files;
import java.nio.file.Path;
import java.util.IdentityHashMap;
import java.util.List;
import java.util.Map;

/** Counts what is as it is due, and prints what is not. */
final class Check {
    static final Class<?> INDEX = IndexOutOfBoundsException.class;
    static final Class<?> ARGUMENT = IllegalArgumentException.class;
    static final Class<?> STATE = IllegalStateException.class;
    static final Class<?> UNSUPPORTED = UnsupportedOperationException.class;
    static final Class<?> NO_ELEMENT = java.util.NoSuchElementException.class;
    static final Class<?> ARITHMETIC = ArithmeticException.class;

    static final String UNCHANGED =
            "A method that throws an exception or returns an error code leaves the state unchanged, unless"
            + " its description says otherwise.";

    private static final Path DOCUMENT = Path.of("../shared/DOC.md");

    private static final Map<Looks.Run, List<String>> BEFORE = new IdentityHashMap<>();

    private static String document = "";
    private static String sentence = "";
    private static String told = "";
    private static int passed;
    private static int failed;

    private Check() { }

    interface Call {
        void make();
    }

    /** Names the sentence of the document that the next checks are about. */
    static void sentence(String words) {
        sentence = words;
        if (document.isEmpty()) {
            document = read();
        }
        holds("the document has this sentence", document.contains(words));
    }

    private static String read() {
        try {
            return Files.readString(DOCUMENT, StandardCharsets.UTF_8).replaceAll("\\s+", " ");
        } catch (IOException e) {
            throw new IllegalStateException(e);
        }
    }

    private static void count(boolean isDue, String fault) {
        if (isDue) {
            passed++;
        } else {
            failed++;
            if (!sentence.equals(told)) {
                System.out.println("\"" + sentence + "\"");
                told = sentence;
            }
            System.out.println("  " + fault);
        }
    }

    static void same(String what, double got, double due) {
        count(got == due, what + " is " + got + ", due is " + due);
    }

    static void holds(String what, boolean is) {
        count(is, what + " does not hold");
    }

    static void refuses(String what, Class<?> due, Call call) {
        Class<?> got = null;
        try {
            call.make();
        } catch (RuntimeException e) {
            got = e.getClass();
        }
        count(got == due, what + " throws " + got + ", due is " + due);
    }

    /** Two runs of calls leave what cannot be told apart. */
    static void alike(String what, Looks.Run got, Looks.Run due) {
        alike(what, got, Looks.of(Real::new, due));
    }

    static void alike(String what, Looks.Run got, List<String> due) {
        String difference = Looks.difference(Looks.of(Real::new, got), due);
        count(difference == null, what + ": " + difference);
    }

    /** The call throws this behind these calls, and leaves everything as it was. */
    static void refused(String what, Class<?> due, Looks.Run before, Looks.Run call) {
        Face x = new Real();
        before.on(x);
        refuses(what, due, () -> call.on(x));
        String named = sentence;
        sentence(UNCHANGED);
        alike("the state after " + what, y -> {
            before.on(y);
            attempt(call, y);
        }, BEFORE.computeIfAbsent(before, run -> Looks.of(Real::new, run)));
        sentence = named;
    }

    static void attempt(Looks.Run call, Face x) {
        try {
            call.on(x);
        } catch (RuntimeException e) {
            // What it throws is looked at elsewhere.
        }
    }

    /** The first numbers about a node: up, role, term, vote, commit index, last index .. */
    static void node(String when, Face x, int node, int... due) {
        for (int what = 0; what < due.length; what++) {
            same(when + ": node(" + node + ", " + what + ")", x.node(node, what), due[what]);
        }
    }

    /** Kind, sender, receiver, term, due time and the two other parts of a message. */
    static void message(String when, Face x, int i, int... due) {
        for (int what = 0; what < due.length; what++) {
            same(when + ": message(" + i + ", " + what + ")", x.message(i, what), due[what]);
        }
    }

    static void log(String when, Face x, int node, String due) {
        StringBuilder got = new StringBuilder();
        int length = x.write(node);
        for (int i = 0; i < length; i++) {
            got.append(x.text(i));
        }
        count(due.equals(got.toString()),
                when + ": the log of " + node + " is \"" + got + "\", due is \"" + due + "\"");
    }

    static void feed(Face x, String text) {
        for (int i = 0; i < text.length(); i++) {
            x.feed(text.charAt(i));
        }
    }

    static int perform(Face x, String text) {
        feed(x, text);
        return x.perform();
    }

    static Face started(int members, int seed) {
        Face x = new Real();
        x.start(members, seed);
        return x;
    }

    /** Submits values to a leader until its last index is this one. */
    static void fill(Face x, int leader, int last) {
        for (int i = x.node(leader, 5) + 1; i <= last; i++) {
            x.submit(leader, i);
        }
    }

    static void loseAll(Face x) {
        for (int i = x.messages(); i > 0; i--) {
            x.lose(i - 1);
        }
    }

    /** The number of the message of this kind between these nodes with this due time, or -1. */
    static int find(Face x, int kind, int sender, int receiver, int due) {
        for (int i = 0; i < x.messages(); i++) {
            if (x.message(i, 0) == kind && x.message(i, 1) == sender && x.message(i, 2) == receiver
                    && x.message(i, 4) == due) {
                return i;
            }
        }
        return -1;
    }

    static void end(String name) {
        System.out.println(name + ": " + passed + " answers as due, " + failed + " wrong");
        System.exit(failed == 0 && passed > 0 ? 0 : 1);
    }
}
