import java.util.ArrayList;
import java.util.Arrays;
import java.util.HashMap;
import java.util.List;
import java.util.Map;
import java.util.NoSuchElementException;
import java.util.Set;
import java.util.TreeMap;
import java.util.regex.Matcher;
import java.util.regex.Pattern;

/**
 * The document's sentences a second time, written in their order and without regard to speed,
 * memory or LANGUAGE.md, so that RandomRuns can compare the class with it.
 */
final class Model implements Face {
    record Entry(int term, int kind, int value) { }

    record Snap(int index, int term, int result, int old, int young) { }

    record Msg(int kind, int from, int to, int term, int due, int index, int detail,
            int prevTerm, List<Entry> entries, int commit, int told, Snap snap) { }

    static final class Node {
        final int id;
        boolean up = true;
        int role;
        int term;
        int vote = -1;
        int commit;
        int timer;
        Snap snap;
        List<Entry> log = new ArrayList<>();
        Set<Integer> voters = new java.util.TreeSet<>();
        Map<Integer, int[]> notes = new TreeMap<>();

        Node(int id, int members) {
            this.id = id;
            snap = new Snap(0, 0, 0, 0, members);
        }

        Node copy() {
            Node c = new Node(id, 0);
            c.up = up;
            c.role = role;
            c.term = term;
            c.vote = vote;
            c.commit = commit;
            c.timer = timer;
            c.snap = snap;
            c.log = new ArrayList<>(log);
            c.voters = new java.util.TreeSet<>(voters);
            notes.forEach((k, v) -> c.notes.put(k, v.clone()));
            return c;
        }

        int last() {
            return snap.index + log.size();
        }

        Entry at(int index) {
            return index > snap.index && index <= last() ? log.get(index - snap.index - 1) : null;
        }

        int termAt(int index) {
            return index == snap.index ? snap.term : at(index).term;
        }

        /** Index, old group, new group of the configuration. */
        int[] config() {
            for (int i = last(); i > snap.index; i--) {
                if (at(i).kind == 1) {
                    return new int[] {i, at(i).value >> 5, at(i).value & 31};
                }
                if (at(i).kind == 2) {
                    return new int[] {i, 0, at(i).value};
                }
            }
            return new int[] {snap.index, snap.old, snap.young};
        }

        boolean member(int n) {
            return (((config()[1] | config()[2]) >> n) & 1) != 0;
        }

        boolean quorum(Set<Integer> set) {
            for (int g = 1; g <= 2; g++) {
                int group = config()[g];
                double in = 0;
                double all = 0;
                for (int n = 0; n < 5; n++) {
                    if ((group >> n & 1) == 1) {
                        all++;
                        in += set.contains(n) ? 1 : 0;
                    }
                }
                if (all > 0 && !(in > all / 2)) {
                    return false;
                }
            }
            return true;
        }

        int result() {
            int r = snap.result;
            for (int i = snap.index + 1; i <= commit; i++) {
                if (at(i).kind == 0) {
                    r = 31 * r + at(i).value;
                }
            }
            return r;
        }
    }

    static final class World {
        int seed;
        int time;
        int delay = 1;
        Node[] nodes = new Node[5];
        boolean[][] cut = new boolean[5][5];
        List<Msg> mail = new ArrayList<>();
        int[] stats = new int[7];
        Map<Integer, Integer> winners = new HashMap<>();

        World copy() {
            World c = new World();
            c.seed = seed;
            c.time = time;
            c.delay = delay;
            for (int i = 0; i < 5; i++) {
                c.nodes[i] = nodes[i].copy();
                c.cut[i] = cut[i].clone();
            }
            c.mail = new ArrayList<>(mail);
            c.stats = stats.clone();
            c.winners = new HashMap<>(winners);
            return c;
        }
    }

    private World w;
    private World saved;
    private String buffer = "";
    private String text = "";

    Model() {
        start(7, 0);
    }

    // ---- rules

    private void reset(Node n) {
        int x = (w.seed + 5 * n.term + n.id) * -1640531527 >>> 20;
        n.timer = 8 + (x & 7);
    }

    private void post(int kind, Node from, int to, int index, int detail, int prevTerm,
            List<Entry> entries, int told) {
        Msg m = new Msg(kind, from.id, to, from.term, w.time + w.delay, index, detail, prevTerm,
                List.copyOf(entries), from.commit, told, from.snap);
        w.stats[1]++;
        if (w.cut[from.id][to] || w.mail.size() == 40) {
            w.stats[2]++;
        } else {
            w.mail.add(m);
        }
    }

    private void oneTick() {
        w.time++;
        List<Msg> due = new ArrayList<>();
        for (Msg m : w.mail) {
            if (m.due == w.time) {
                due.add(m);
            }
        }
        for (Msg m : due) {
            for (int i = 0; i < w.mail.size(); i++) {
                if (w.mail.get(i) == m) {
                    w.mail.remove(i);
                    break;
                }
            }
            if (w.nodes[m.to].up) {
                receive(w.nodes[m.to], m);
            } else {
                w.stats[2]++;
            }
        }
        for (Node n : w.nodes) {
            if (!n.up) {
                continue;
            }
            if (n.role == 2) {
                if (--n.timer == 0) {
                    n.timer = 3;
                    sendAll(n);
                }
            } else if (n.member(n.id)) {
                if (--n.timer == 0) {
                    stand(n);
                }
            }
        }
    }

    private void stand(Node n) {
        w.stats[3]++;
        n.term++;
        n.role = 1;
        n.vote = n.id;
        n.voters.clear();
        n.voters.add(n.id);
        reset(n);
        for (int o = 0; o < 5; o++) {
            if (o != n.id && n.member(o)) {
                post(0, n, o, n.last(), n.termAt(n.last()), 0, List.of(), 0);
            }
        }
        if (n.quorum(n.voters)) {
            win(n);
        }
    }

    private void win(Node n) {
        w.stats[4]++;
        w.winners.put(n.term, n.id);
        n.role = 2;
        n.timer = 3;
        n.notes.clear();
        for (int o = 0; o < 5; o++) {
            if (o != n.id) {
                n.notes.put(o, new int[] {n.last() + 1, 0, -1});
            }
        }
        if (n.log.size() < 24) {
            n.log.add(new Entry(n.term, 3, 0));
            commit(n);
        }
        sendAll(n);
    }

    private void sendAll(Node n) {
        for (int o = 0; o < 5; o++) {
            if (o != n.id && n.member(o)) {
                sendOne(n, o);
            }
        }
    }

    private void sendOne(Node n, int o) {
        int next = n.notes.get(o)[0];
        if (next <= n.snap.index) {
            post(4, n, o, n.snap.index, n.snap.term, 0, List.of(), w.time);
            return;
        }
        List<Entry> some = new ArrayList<>();
        for (int i = next; i <= n.last() && some.size() < 4; i++) {
            some.add(n.at(i));
        }
        post(2, n, o, next - 1, some.size(), n.termAt(next - 1), some, w.time);
    }

    private void answer(Node n, Msg m, int success, int index) {
        post(3, n, m.from, index, success, 0, List.of(), m.told);
    }

    private void receive(Node n, Msg m) {
        if (m.term > n.term) {
            n.term = m.term;
            n.vote = -1;
            n.role = 0;
        }
        switch (m.kind) {
            case 0 -> {
                int last = n.last();
                int lastTerm = n.termAt(last);
                boolean grant = m.term == n.term && (n.vote == -1 || n.vote == m.from)
                        && (m.detail > lastTerm || m.detail == lastTerm && m.index >= last);
                if (grant) {
                    n.vote = m.from;
                    reset(n);
                }
                post(1, n, m.from, 0, grant ? 1 : 0, 0, List.of(), 0);
            }
            case 1 -> {
                if (n.role == 1 && m.term == n.term && m.detail == 1) {
                    n.voters.add(m.from);
                    if (n.quorum(n.voters)) {
                        win(n);
                    }
                }
            }
            case 2 -> append(n, m);
            case 3 -> answered(n, m);
            default -> {
                if (m.term < n.term) {
                    answer(n, m, 0, 0);
                    return;
                }
                n.role = 0;
                reset(n);
                if (m.index > n.commit) {
                    boolean stays = n.at(m.index) != null && n.at(m.index).term == m.detail;
                    List<Entry> rest = new ArrayList<>();
                    if (stays) {
                        for (int i = m.index + 1; i <= n.last(); i++) {
                            rest.add(n.at(i));
                        }
                    }
                    n.log = rest;
                    n.snap = m.snap;
                    n.commit = m.index;
                    w.stats[6]++;
                }
                answer(n, m, 1, n.commit);
            }
        }
    }

    private void append(Node n, Msg m) {
        if (m.term < n.term) {
            answer(n, m, 0, 0);
            return;
        }
        n.role = 0;
        reset(n);
        if (m.index > n.last() || m.index > n.snap.index && n.at(m.index).term != m.prevTerm) {
            answer(n, m, 0, Math.min(n.last(), m.index - 1));
            return;
        }
        int ignored = 0;
        int index = m.index;
        for (Entry e : m.entries) {
            index++;
            if (index <= n.snap.index) {
                continue;
            }
            if (n.at(index) != null && n.at(index).term != e.term) {
                while (n.last() >= index) {
                    n.log.remove(n.log.size() - 1);
                    w.stats[5]++;
                }
            }
            if (n.at(index) == null) {
                if (ignored > 0 || n.log.size() == 24) {
                    ignored++;
                } else {
                    n.log.add(e);
                }
            }
        }
        int end = m.index + m.entries.size() - ignored;
        int bound = Math.min(m.commit, end);
        if (bound > n.commit) {
            n.commit = bound;
        }
        answer(n, m, 1, end);
    }

    private void answered(Node n, Msg m) {
        if (n.role != 2 || m.term != n.term) {
            return;
        }
        int[] note = n.notes.get(m.from);
        if (m.detail == 1) {
            if (m.index > note[1]) {
                note[1] = m.index;
            }
            note[0] = note[1] + 1;
            if (m.told > note[2]) {
                note[2] = m.told;
            }
            commit(n);
        } else {
            note[0] = Math.min(note[0] - 1, m.index + 1);
            if (note[0] < 1) {
                note[0] = 1;
            }
            sendOne(n, m.from);
        }
    }

    private void commit(Node n) {
        int found = n.commit;
        for (int i = n.commit + 1; i <= n.last(); i++) {
            Set<Integer> have = new java.util.TreeSet<>();
            have.add(n.id);
            for (Map.Entry<Integer, int[]> e : n.notes.entrySet()) {
                if (e.getValue()[1] >= i) {
                    have.add(e.getKey());
                }
            }
            if (n.at(i).term == n.term && n.quorum(have)) {
                found = i;
            }
        }
        n.commit = found;
        int[] c = n.config();
        if (c[1] != 0 && c[0] <= n.commit && n.log.size() < 24) {
            n.log.add(new Entry(n.term, 2, c[2]));
        }
        c = n.config();
        if (c[1] == 0 && !n.member(n.id) && c[0] <= n.commit) {
            n.role = 0;
            reset(n);
        }
    }

    private int lease(Node n) {
        for (int t = w.time; t >= 0; t--) {
            Set<Integer> heard = new java.util.TreeSet<>();
            heard.add(n.id);
            for (Map.Entry<Integer, int[]> e : n.notes.entrySet()) {
                if (e.getValue()[2] >= t) {
                    heard.add(e.getKey());
                }
            }
            if (n.quorum(heard)) {
                return 6 + t;
            }
        }
        return -1;
    }

    // ---- the face

    private Node get(int n) {
        if (n < 0 || n > 4) {
            throw new IndexOutOfBoundsException();
        }
        return w.nodes[n];
    }

    private static void range(int what, int most) {
        if (what < 0 || what > most) {
            throw new IllegalArgumentException();
        }
    }

    private static void state(boolean is) {
        if (!is) {
            throw new IllegalStateException();
        }
    }

    @Override
    public int start(int members, int seed) {
        if (members == 0 || (members & ~31) != 0) {
            throw new IllegalArgumentException();
        }
        w = new World();
        w.seed = seed;
        for (int i = 0; i < 5; i++) {
            w.nodes[i] = new Node(i, members);
            reset(w.nodes[i]);
        }
        int count = 0;
        for (int i = 0; i < 5; i++) {
            count += members >> i & 1;
        }
        return count;
    }

    @Override
    public int tick(int ticks) {
        if (ticks < 1 || ticks > 60) {
            throw new IllegalArgumentException();
        }
        for (int i = 0; i < ticks; i++) {
            oneTick();
        }
        return w.time;
    }

    @Override
    public int setDelay(int delay) {
        if (delay < 1 || delay > 5) {
            throw new IllegalArgumentException();
        }
        int was = w.delay;
        w.delay = delay;
        return was;
    }

    @Override
    public boolean setLink(int one, int other, boolean isCut) {
        get(one);
        get(other);
        if (one == other) {
            throw new IllegalArgumentException();
        }
        boolean was = w.cut[one][other];
        w.cut[one][other] = isCut;
        w.cut[other][one] = isCut;
        return was;
    }

    @Override
    public int crash(int node) {
        Node n = get(node);
        state(n.up);
        n.up = false;
        n.role = 0;
        return n.term;
    }

    @Override
    public int restart(int node) {
        Node n = get(node);
        state(!n.up);
        n.up = true;
        n.commit = n.snap.index;
        reset(n);
        return n.last();
    }

    @Override
    public int submit(int node, int value) {
        Node n = get(node);
        state(n.role == 2);
        if (n.log.size() == 24) {
            throw new UnsupportedOperationException();
        }
        n.log.add(new Entry(n.term, 0, value));
        int index = n.last();
        commit(n);
        return index;
    }

    @Override
    public int reconfigure(int node, int members) {
        Node n = get(node);
        if (members == 0 || (members & ~31) != 0) {
            throw new IllegalArgumentException();
        }
        int[] c = n.config();
        state(n.role == 2 && c[1] == 0 && c[0] <= n.commit);
        if (n.log.size() == 24) {
            throw new UnsupportedOperationException();
        }
        n.log.add(new Entry(n.term, 1, 32 * c[2] + members));
        int index = n.last();
        commit(n);
        return index;
    }

    @Override
    public int pack(int node) {
        Node n = get(node);
        state(n.up);
        int result = n.result();
        int term = n.termAt(n.commit);
        int old = n.snap.old;
        int young = n.snap.young;
        int count = 0;
        while (n.snap.index + count < n.commit) {
            Entry e = n.log.remove(0);
            count++;
            if (e.kind == 1) {
                old = e.value / 32;
                young = e.value % 32;
            }
            if (e.kind == 2) {
                old = 0;
                young = e.value;
            }
        }
        n.snap = new Snap(n.commit, term, result, old, young);
        return count;
    }

    @Override
    public int read(int node) {
        Node n = get(node);
        state(n.role == 2);
        if (!(w.time < lease(n) && n.termAt(n.commit) == n.term)) {
            throw new UnsupportedOperationException();
        }
        return n.result();
    }

    @Override
    public int node(int node, int what) {
        Node n = get(node);
        range(what, 13);
        int voters = 0;
        for (int v : n.voters) {
            voters |= 1 << v;
        }
        int[] all = {n.up ? 1 : 0, n.role, n.term, n.vote, n.commit, n.last(), n.termAt(n.last()),
            n.snap.index, n.result(), n.timer, n.config()[1], n.config()[2],
            n.role == 2 ? lease(n) : -1, n.role == 1 ? voters : 0};
        return all[what];
    }

    @Override
    public int noted(int leader, int other, int what) {
        Node n = get(leader);
        get(other);
        if (leader == other) {
            throw new IllegalArgumentException();
        }
        range(what, 2);
        state(n.role == 2);
        return n.notes.get(other)[what];
    }

    @Override
    public int entry(int node, int index, int what) {
        Entry e = get(node).at(index);
        if (e == null) {
            throw new IndexOutOfBoundsException();
        }
        range(what, 2);
        return new int[] {e.term, e.kind, e.value}[what];
    }

    @Override
    public int messages() {
        return w.mail.size();
    }

    @Override
    public int message(int i, int what) {
        if (i < 0 || i >= w.mail.size()) {
            throw new IndexOutOfBoundsException();
        }
        range(what, 6);
        Msg m = w.mail.get(i);
        return new int[] {m.kind, m.from, m.to, m.term, m.due, m.index, m.detail}[what];
    }

    @Override
    public int lose(int i) {
        if (i < 0 || i >= w.mail.size()) {
            throw new IndexOutOfBoundsException();
        }
        w.mail.remove(i);
        w.stats[2]++;
        return w.mail.size();
    }

    @Override
    public int leader() {
        return Arrays.stream(w.nodes).filter(n -> n.up && n.role == 2)
                .max((a, b) -> Integer.compare(a.term, b.term))
                .orElseThrow(NoSuchElementException::new).id;
    }

    @Override
    public int winner(int term) {
        if (term > 99 || !w.winners.containsKey(term)) {
            throw new NoSuchElementException();
        }
        return w.winners.get(term);
    }

    @Override
    public int alike(int one, int other) {
        Node a = get(one);
        Node b = get(other);
        if (a.snap.index > b.last() || b.snap.index > a.last()) {
            return -1;
        }
        int best = -1;
        int low = Math.max(a.snap.index, b.snap.index);
        for (int k = low; k <= Math.min(a.last(), b.last()); k++) {
            boolean same = true;
            for (int i = low + 1; i <= k; i++) {
                same &= a.at(i).term == b.at(i).term;
            }
            best = same ? k : best;
        }
        return best;
    }

    @Override
    public int statistic(int what) {
        range(what, 6);
        return what == 0 ? w.time : w.stats[what];
    }

    @Override
    public double share(int node) {
        Node n = get(node);
        double above = 0;
        int below = 0;
        for (Node o : w.nodes) {
            if (o.up && n.member(o.id)) {
                above += o.commit;
                below += o.last();
            }
        }
        if (below == 0) {
            throw new ArithmeticException();
        }
        return above / below;
    }

    @Override
    public int feed(char letter) {
        state(buffer.length() < 80);
        buffer += letter;
        return buffer.length();
    }

    private static final Pattern WORD = Pattern.compile("[a-z]*");
    private static final Pattern ONE =
            Pattern.compile("(tick|crash|restart|pack) ([0-9]{1,3});");
    private static final Pattern TWO =
            Pattern.compile("(cut|join|put) ([0-9]{1,3}),([0-9]{1,3});");
    private static final Set<String> ONES = Set.of("tick", "crash", "restart", "pack");
    private static final Set<String> TWOS = Set.of("cut", "join", "put");

    @Override
    public int perform() {
        String script = buffer;
        buffer = "";
        List<String[]> commands = new ArrayList<>();
        int from = 0;
        do {
            Matcher word = WORD.matcher(script).region(from, script.length());
            word.lookingAt();
            Pattern form = ONES.contains(word.group()) ? ONE : TWO;
            if (form == TWO && !TWOS.contains(word.group())) {
                return -100 - from;
            }
            Matcher command = form.matcher(script).region(from, script.length());
            if (!command.lookingAt()) {
                return -100 - errorIn(form, script, from);
            }
            commands.add(new String[] {word.group(), command.group(2),
                form == TWO ? command.group(3) : "0"});
            from = command.end();
        } while (from < script.length());
        for (String[] c : commands) {
            try {
                carryOut(c[0], Integer.parseInt(c[1]), Integer.parseInt(c[2]));
            } catch (RuntimeException e) {
                throw new UnsupportedOperationException();
            }
        }
        return commands.size();
    }

    /** The length of the longest beginning that could still become a command. */
    private static int errorIn(Pattern form, String script, int from) {
        int end = from;
        while (end < script.length()) {
            Matcher m = form.matcher(script.substring(from, end + 1));
            if (!m.matches() && !m.hitEnd()) {
                break;
            }
            end++;
        }
        return end;
    }

    private void carryOut(String word, int a, int b) {
        switch (word) {
            case "tick" -> tick(a);
            case "crash" -> crash(a);
            case "restart" -> restart(a);
            case "pack" -> pack(a);
            case "put" -> submit(a, b);
            default -> setLink(a, b, word.equals("cut"));
        }
    }

    @Override
    public int write(int node) {
        Node n = get(node);
        List<String> parts = new ArrayList<>();
        if (n.snap.index != 0) {
            parts.add("[" + n.snap.index + "]");
        }
        for (int i = n.snap.index + 1; i <= n.last(); i++) {
            Entry e = n.at(i);
            String what = switch (e.kind) {
                case 0 -> "" + e.value;
                case 1 -> "J" + e.value;
                case 2 -> "C" + e.value;
                default -> "-";
            };
            parts.add(e.term + ":" + what + (i <= n.commit ? "!" : ""));
        }
        text = String.join(" ", parts);
        return text.length();
    }

    @Override
    public char text(int i) {
        if (i < 0 || i >= text.length()) {
            throw new IndexOutOfBoundsException();
        }
        return text.charAt(i);
    }

    @Override
    public int save() {
        saved = w.copy();
        return w.time;
    }

    @Override
    public int restore() {
        state(saved != null);
        w = saved.copy();
        return w.time;
    }
}
