import java.util.ArrayList;
import java.util.HashMap;
import java.util.List;
import java.util.Map;

/**
 * Runs of calls that are chosen by a fixed sequence of numbers: each answer must be that of the
 * Model, and what is true of every replicated log must be true of this one.
 */
public final class RandomRuns {
    private static final int RUNS = 500;
    private static final int CALLS = 160;

    private long state;
    private final QuorumLog real = new QuorumLog();
    private final Model model = new Model();
    private final List<String> calls = new ArrayList<>();
    private final Map<Integer, Integer> winners = new HashMap<>();

    private RandomRuns(long seed) {
        state = seed * 0x9E3779B97F4A7C15L + 12345;
    }

    public static void main(String[] args) {
        int runs = args.length > 0 ? Integer.parseInt(args[0]) : RUNS;
        int failed = 0;
        for (int i = 0; i < runs && failed < 5; i++) {
            RandomRuns run = new RandomRuns(i);
            String fault = run.go(i);
            if (fault != null) {
                failed++;
                System.out.println("run " + i + ": " + fault + "\n  " + String.join("; ", run.calls));
            }
        }
        System.out.println("RandomRuns: " + runs + " runs, " + failed + " failed");
        System.exit(failed == 0 ? 0 : 1);
    }

    private int pick(int bound) {
        state = state * 6364136223846793005L + 1442695040888963407L;
        return (int) ((state >>> 33) % bound);
    }

    private interface Call {
        double of();
    }

    private static String outcome(Call call) {
        try {
            return "" + call.of();
        } catch (RuntimeException e) {
            Class<?> kind = e.getClass();
            return kind.getName();
        }
    }

    private String same(String name, Call one, Call other) {
        String got = outcome(one);
        String due = outcome(other);
        return got.equals(due) ? null : name + " answered " + got + ", due is " + due;
    }

    private String go(int style) {
        for (int i = 0; i < CALLS; i++) {
            String fault = step(style);
            if (fault == null && i % 4 == 0) {
                fault = look();
            }
            if (fault == null) {
                fault = laws();
            }
            if (fault != null) {
                return fault;
            }
        }
        return look();
    }

    private int someNode() {
        return pick(25) == 0 ? pick(9) - 2 : pick(5);
    }

    /** The leader if there is one, as most calls on other nodes are refused. */
    private int someLeader() {
        String leader = outcome(() -> model.leader());
        return pick(6) == 0 || leader.startsWith("java") ? someNode() : (int) Double.parseDouble(leader);
    }

    private int someGroup() {
        return pick(20) == 0 ? pick(80) - 20 : 1 + pick(31);
    }

    private String step(int style) {
        int n = someNode();
        int o = someNode();
        int a = pick(100);
        if (calls.isEmpty() && style % 3 != 0) {
            int seed = pick(5) == 0 ? Integer.MAX_VALUE - pick(9) : pick(1000) - 500;
            int members = style % 3 == 1 ? someGroup() : 31;
            return told("start(" + members + ", " + seed + ")", () -> real.start(members, seed),
                    () -> model.start(members, seed));
        }
        if (a < 34) {
            int ticks = pick(30) == 0 ? pick(70) - 4 : style % 2 == 0 ? 1 + pick(4) : 1 + pick(20);
            return told("tick(" + ticks + ")", () -> real.tick(ticks), () -> model.tick(ticks));
        }
        if (a < 56) {
            int node = someLeader();
            int value = pick(4) == 0 ? (int) state : pick(100);
            int times = pick(12) == 0 ? 24 : 1;
            String fault = null;
            for (int i = 0; i < times && fault == null; i++) {
                fault = told("submit(" + node + ", " + value + ")", () -> real.submit(node, value),
                        () -> model.submit(node, value));
            }
            return fault;
        }
        if (a < 63) {
            int node = someLeader();
            int members = someGroup();
            return told("reconfigure(" + node + ", " + members + ")",
                    () -> real.reconfigure(node, members), () -> model.reconfigure(node, members));
        }
        if (a < 69) {
            return told("crash(" + n + ")", () -> real.crash(n), () -> model.crash(n));
        }
        if (a < 76) {
            return told("restart(" + n + ")", () -> real.restart(n), () -> model.restart(n));
        }
        if (a < 82) {
            int node = pick(2) == 0 ? someLeader() : n;
            return told("pack(" + node + ")", () -> real.pack(node), () -> model.pack(node));
        }
        if (a < 88) {
            boolean cut = pick(3) == 0;
            return told("setLink(" + n + ", " + o + ", " + cut + ")",
                    () -> real.setLink(n, o, cut) ? 1 : 0, () -> model.setLink(n, o, cut) ? 1 : 0);
        }
        if (a < 90) {
            int delay = pick(7);
            return told("setDelay(" + delay + ")", () -> real.setDelay(delay),
                    () -> model.setDelay(delay));
        }
        if (a < 94) {
            int i = pick(8) - 1;
            return told("lose(" + i + ")", () -> real.lose(i), () -> model.lose(i));
        }
        if (a < 95) {
            return told("save()", () -> real.save(), () -> model.save());
        }
        if (a < 96 && pick(3) == 0) {
            winners.clear();
            return told("restore()", () -> real.restore(), () -> model.restore());
        }
        return script();
    }

    private String script() {
        String[] words = {"tick", "crash", "restart", "cut", "join", "put", "pack", "tack", "tic", ""};
        StringBuilder text = new StringBuilder();
        for (int i = pick(9); i > 0; i--) {
            String word = words[pick(30) == 0 ? pick(words.length) : pick(7)];
            text.append(word).append(' ');
            text.append(word.equals("tick") ? pick(66) : word.equals("put") ? someLeader() : someNode());
            if (word.equals("cut") || word.equals("join") || word.equals("put")) {
                text.append(',').append(word.equals("put") ? pick(1000) : pick(5));
            }
            text.append(';');
        }
        if (text.length() > 0 && pick(3) == 0) {
            String strange = "; ,0a9Z-tk" + (char) 300;
            text.insert(pick(text.length() + 1), strange.charAt(pick(strange.length())));
        }
        if (text.length() > 0 && pick(6) == 0) {
            text.setLength(pick(text.length()));
        }
        for (int i = 0; i < text.length(); i++) {
            char c = text.charAt(i);
            String fault = same("feed", () -> real.feed(c), () -> model.feed(c));
            if (fault != null) {
                return fault;
            }
        }
        return told("perform() of " + text, () -> real.perform(), () -> model.perform());
    }

    private String told(String name, Call one, Call other) {
        calls.add(name);
        return same(name, one, other);
    }

    /** Every question, with wrong inputs too. */
    private String look() {
        List<String> faults = new ArrayList<>();
        for (int n = -1; n <= 5; n++) {
            int node = n;
            for (int k = -1; k <= 14; k++) {
                int what = k;
                faults.add(same("node(" + n + ", " + k + ")", () -> real.node(node, what),
                        () -> model.node(node, what)));
            }
            faults.add(same("read(" + n + ")", () -> real.read(node), () -> model.read(node)));
            faults.add(same("share(" + n + ")", () -> real.share(node), () -> model.share(node)));
            faults.add(same("write(" + n + ")", () -> real.write(node), () -> model.write(node)));
            int length = (int) Double.parseDouble(n < 0 || n > 4 ? "0" : outcome(() -> model.write(node)));
            for (int k = -1; k <= length; k++) {
                int i = k;
                faults.add(same("text(" + k + ")", () -> real.text(i), () -> model.text(i)));
            }
            for (int p = -1; p <= 5; p++) {
                int other = p;
                faults.add(same("alike(" + n + ", " + p + ")", () -> real.alike(node, other),
                        () -> model.alike(node, other)));
                for (int k = -1; k <= 3; k++) {
                    int what = k;
                    faults.add(same("noted(" + n + ", " + p + ", " + k + ")",
                            () -> real.noted(node, other, what), () -> model.noted(node, other, what)));
                }
            }
            int last = n < 0 || n > 4 ? 0 : model.node(n, 5);
            for (int i = Math.max(-1, last - 26); i <= last + 1; i++) {
                int index = i;
                for (int k = -1; k <= 3; k++) {
                    int what = k;
                    faults.add(same("entry(" + n + ", " + i + ", " + k + ")",
                            () -> real.entry(node, index, what), () -> model.entry(node, index, what)));
                }
            }
        }
        faults.add(same("messages()", () -> real.messages(), () -> model.messages()));
        for (int m = -1; m <= model.messages(); m++) {
            int i = m;
            for (int k = -1; k <= 7; k++) {
                int what = k;
                faults.add(same("message(" + m + ", " + k + ")", () -> real.message(i, what),
                        () -> model.message(i, what)));
            }
        }
        for (int k = -1; k <= 101; k++) {
            int what = k;
            faults.add(same("winner(" + k + ")", () -> real.winner(what), () -> model.winner(what)));
            faults.add(same("statistic(" + k + ")", () -> real.statistic(what), () -> model.statistic(what)));
        }
        faults.add(same("leader()", () -> real.leader(), () -> model.leader()));
        faults.removeIf(f -> f == null);
        return faults.isEmpty() ? null : faults.get(0);
    }

    /** One winner a term, no commit index beyond its log, and committed entries that agree. */
    private String laws() {
        for (int term = 0; term < 100; term++) {
            int t = term;
            String winner = outcome(() -> real.winner(t));
            if (!winner.startsWith("java")) {
                int found = (int) Double.parseDouble(winner);
                if (winners.getOrDefault(term, found) != found) {
                    return "two winners in the term " + term;
                }
                winners.put(term, found);
            }
        }
        for (int n = 0; n < 5; n++) {
            if (real.node(n, 4) > real.node(n, 5) || real.node(n, 4) < real.node(n, 7)) {
                return "the commit index of " + n + " is not in its log";
            }
            for (int o = 0; o < n; o++) {
                int both = Math.min(real.node(n, 4), real.node(o, 4));
                int alike = real.alike(n, o);
                if (alike >= 0 && alike < both) {
                    return "what " + n + " and " + o + " have committed differs";
                }
            }
        }
        return null;
    }
}
