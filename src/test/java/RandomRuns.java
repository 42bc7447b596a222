import java.util.ArrayList;
import java.util.HashSet;
import java.util.List;
import java.util.Set;

/**
 * Runs of calls that are chosen by a fixed sequence of numbers: each answer must be that of the
 * Model, all that can be seen at the end too, and what is true of every replicated log must be
 * true of this one. A run is so short that the questions at its end stay within the 512 calls.
 */
public final class RandomRuns {
    private static final int RUNS = 1000;
    private static final int MOST_CALLS = 200;

    private long state;
    private int count;
    private final Face real = new Real();
    private final Face model = new Model();
    private final List<Looks.Run> steps = new ArrayList<>();
    private final List<String> names = new ArrayList<>();

    private RandomRuns(long seed) {
        state = seed * 0x9E3779B97F4A7C15L + 12345;
    }

    public static void main(String[] args) {
        int runs = args.length > 0 ? Integer.parseInt(args[0]) : RUNS;
        int failed = 0;
        for (int i = 0; i < runs && failed < 5; i++) {
            RandomRuns run = new RandomRuns(i);
            String fault = run.go(i);
            if (fault != null) {
                failed++;
                System.out.println("run " + i + ": " + fault + "\n  " + String.join("; ", run.names));
            }
        }
        System.out.println("RandomRuns: " + runs + " runs, " + failed + " failed");
        System.exit(failed == 0 ? 0 : 1);
    }

    private int pick(int bound) {
        state = state * 6364136223846793005L + 1442695040888963407L;
        return (int) ((state >>> 33) % bound);
    }

    private String go(int style) {
        int end = MOST_CALLS / 4 + pick(MOST_CALLS * 3 / 4);
        while (count < end) {
            String fault = step(style);
            if (fault == null && pick(2) == 0) {
                fault = question();
            }
            if (fault != null) {
                return fault;
            }
        }
        Looks.Run all = x -> {
            for (Looks.Run step : steps) {
                Check.attempt(step, x);
            }
        };
        String difference = Looks.difference(Looks.of(Real::new, all), Looks.of(Model::new, all));
        return difference != null ? difference : laws(all);
    }

    /** A call and what it answers; it is made again as often as something is asked at the end. */
    private interface Call {
        double of(Face x);
    }

    private String call(String name, Call call) {
        if (count >= MOST_CALLS) {
            return null;
        }
        count++;
        names.add(name);
        steps.add(x -> call.of(x));
        String got = Looks.outcome(() -> call.of(real));
        String due = Looks.outcome(() -> call.of(model));
        return got.equals(due) ? null : name + " answered " + got + ", due is " + due;
    }

    private int someNode() {
        return pick(25) == 0 ? pick(9) - 2 : pick(5);
    }

    /** The leader if there is one, as most calls on other nodes are refused. */
    private int someLeader() {
        String leader = Looks.outcome(() -> model.leader());
        return pick(6) == 0 || leader.startsWith("java") ? someNode() : (int) Double.parseDouble(leader);
    }

    private int someGroup() {
        return pick(20) == 0 ? pick(80) - 20 : 1 + pick(31);
    }

    private String step(int style) {
        if (count == 0 && style % 3 != 0) {
            int seed = pick(5) == 0 ? Integer.MAX_VALUE - pick(9) : pick(1000) - 500;
            int members = style % 3 == 1 ? someGroup() : 31;
            return call("start(" + members + ", " + seed + ")", x -> x.start(members, seed));
        }
        int a = pick(100);
        if (a < 63) {
            return a < 34 ? ticks(style) : a < 56 ? submits() : change();
        }
        int n = someNode();
        int o = someNode();
        if (a < 69) {
            return call("crash(" + n + ")", x -> x.crash(n));
        }
        if (a < 76) {
            return call("restart(" + n + ")", x -> x.restart(n));
        }
        if (a < 82) {
            int node = pick(2) == 0 ? someLeader() : n;
            return call("pack(" + node + ")", x -> x.pack(node));
        }
        if (a < 88) {
            boolean cut = pick(3) == 0;
            return call("setLink(" + n + ", " + o + ", " + cut + ")", x -> x.setLink(n, o, cut) ? 1 : 0);
        }
        if (a < 90) {
            int delay = pick(7);
            return call("setDelay(" + delay + ")", x -> x.setDelay(delay));
        }
        if (a < 94) {
            int i = pick(8) - 1;
            return call("lose(" + i + ")", x -> x.lose(i));
        }
        if (a < 96) {
            return pick(3) < 2 ? call("save()", x -> x.save()) : call("restore()", x -> x.restore());
        }
        return a < 98 ? script() : call("write(" + n + ")", x -> x.write(n));
    }

    private String ticks(int style) {
        int ticks = pick(30) == 0 ? pick(70) - 4 : style % 2 == 0 ? 1 + pick(4) : 1 + pick(20);
        return call("tick(" + ticks + ")", x -> x.tick(ticks));
    }

    private String submits() {
        int node = someLeader();
        int value = pick(4) == 0 ? (int) state : pick(100);
        int times = pick(12) == 0 ? 24 : 1;
        String fault = null;
        for (int i = 0; i < times && fault == null; i++) {
            fault = call("submit(" + node + ", " + value + ")", x -> x.submit(node, value));
        }
        return fault;
    }

    private String change() {
        int node = someLeader();
        int members = someGroup();
        return call("reconfigure(" + node + ", " + members + ")", x -> x.reconfigure(node, members));
    }

    private String question() {
        int n = someNode();
        int o = someNode();
        int what = pick(16) - 1;
        switch (pick(8)) {
            case 0: return call("node(" + n + ", " + what + ")", x -> x.node(n, what));
            case 1: return call("noted(" + n + ", " + o + ", " + what % 4 + ")", x -> x.noted(n, o, what % 4));
            case 2: return call("entry(" + n + ", " + what + ", 2)", x -> x.entry(n, what, 2));
            case 3: return call("message(" + what + ", " + o + ")", x -> x.message(what, o));
            case 4: return call("alike(" + n + ", " + o + ")", x -> x.alike(n, o));
            case 5: return call("statistic(" + what % 8 + ")", x -> x.statistic(what % 8));
            case 6: return call("share(" + n + ")", x -> x.share(n));
            default: return call("read(" + n + ")", x -> x.read(n));
        }
    }

    private String script() {
        String text = someScript();
        String fault = null;
        for (int i = 0; i < text.length() && count < MOST_CALLS && fault == null; i++) {
            char c = text.charAt(i);
            fault = call("feed('" + c + "')", x -> x.feed(c));
        }
        return fault == null ? call("perform()", x -> x.perform()) : fault;
    }

    private String someScript() {
        String[] words = {"tick", "crash", "restart", "cut", "join", "put", "pack", "tack", "tic", ""};
        StringBuilder text = new StringBuilder();
        for (int i = pick(9); i > 0; i--) {
            String word = words[pick(30) == 0 ? pick(words.length) : pick(7)];
            text.append(word).append(' ');
            text.append(word.equals("tick") ? pick(66) : word.equals("put") ? someLeader() : someNode());
            if (word.equals("cut") || word.equals("join") || word.equals("put")) {
                text.append(',').append(word.equals("put") ? pick(1000) : pick(5));
            }
            text.append(';');
        }
        if (text.length() > 0 && pick(3) == 0) {
            String strange = "; ,0a9Z-tk" + (char) 300;
            text.insert(pick(text.length() + 1), strange.charAt(pick(strange.length())));
        }
        if (text.length() > 0 && pick(6) == 0) {
            text.setLength(pick(text.length()));
        }
        return text.toString();
    }

    /** One winner a term, no commit index beyond its log, and committed entries that agree. */
    private static String laws(Looks.Run all) {
        Face x = new Real();
        all.on(x);
        Set<Integer> terms = new HashSet<>();
        for (int term = 0; term < 100; term++) {
            int t = term;
            if (!Looks.outcome(() -> x.winner(t)).startsWith("java")) {
                terms.add(term);
            }
        }
        boolean isShort = true;
        for (int n = 0; n < 5; n++) {
            isShort &= x.node(n, 2) < 100;
            if (x.node(n, 4) > x.node(n, 5) || x.node(n, 4) < x.node(n, 7)) {
                return "the commit index of " + n + " is not in its log";
            }
            for (int o = 0; o < n; o++) {
                int both = Math.min(x.node(n, 4), x.node(o, 4));
                int alike = x.alike(n, o);
                if (alike >= 0 && alike < both) {
                    return "what " + n + " and " + o + " have committed differs";
                }
            }
        }
        return isShort && terms.size() != x.statistic(4) ? "two winners in a term" : null;
    }
}
