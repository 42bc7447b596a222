/**
 * What each method refuses: the first values that are not allowed, the exception that comes first
 * where several apply, and that the state stays as it was.
 */
public final class RefusalEdges {
    private static final int MAX = Integer.MAX_VALUE;
    private static final int MIN = Integer.MIN_VALUE;
    private static final int[] NO_NODES = {-1, 5, 32, MIN, MAX};
    private static final int[] NO_GROUPS = {0, 32, 33, 63, -1, -32, 1 << 16 | 7, MIN, MIN | 1, MAX};
    private static final String NO_NODE = "Throws `IndexOutOfBoundsException` if there is no such node";
    private static final String NO_MEMBERS =
            "Throws `IllegalArgumentException` if there are no members, or a bit stands for no node";
    private static final String FIRST = "If several exceptions apply, the one named first is thrown.";

    /**
     * Node 0 leads, node 2 is down, node 1 has a snapshot; there are messages, a link is cut,
     * something is saved, written and fed.
     */
    private static final Looks.Run BUSY = x -> {
        x.tick(14);
        x.submit(0, 5);
        x.tick(5);
        x.pack(1);
        x.save();
        x.write(0);
        Check.feed(x, "crash 3;tick 2;");
        x.setDelay(3);
        x.setLink(1, 3, true);
        x.submit(0, -6);
        x.tick(2);
        x.crash(2);
    };

    /** The log of the leader and of a follower have 24 entries, and that of node 0 is committed. */
    private static final Looks.Run FULL = x -> {
        x.tick(14);
        Scenes.fill(x, 0, 2);
        x.tick(20);
    };

    private static final Looks.Run JOINT = x -> {
        x.tick(14);
        x.reconfigure(0, 11);
        x.tick(1);
    };

    private static final Looks.Run JOINT_AND_FULL = x -> {
        JOINT.on(x);
        Scenes.fill(x, 0, 3);
    };

    /** The new group is in the log and not committed. */
    private static final Looks.Run CHANGING = x -> {
        x.tick(14);
        x.reconfigure(0, 11);
        x.tick(3);
    };

    private static final Looks.Run CHANGING_AND_FULL = x -> {
        CHANGING.on(x);
        Scenes.fill(x, 0, 4);
    };

    private static final Looks.Run CANDIDATE = x -> x.tick(9);

    private static final Looks.Run NEW = x -> { };

    private RefusalEdges() { }

    public static void main(String[] args) {
        states();
        start();
        tick();
        setDelay();
        setLink();
        crash();
        restart();
        submit();
        reconfigure();
        reconfigureOrder();
        pack();
        read();
        node();
        noted();
        entry();
        message();
        lose();
        leader();
        winner();
        alike();
        statistic();
        share();
        feed();
        write();
        text();
        restore();
        Check.end("RefusalEdges");
    }

    /** The states are those that they are said to be. */
    private static void states() {
        Face x = new Real();
        BUSY.on(x);
        Check.node("the leader", x, 0, 1, 2, 1, 0, 2, 3, 1);
        Check.same("down", x.node(2, 0), 0);
        Check.same("messages", x.messages(), 2);
        Face y = new Real();
        FULL.on(y);
        Check.node("the leader", y, 0, 1, 2, 1, 0, 24, 24);
        Check.same("a follower", y.node(1, 5), 24);
        Face z = new Real();
        JOINT_AND_FULL.on(z);
        Check.node("joint", z, 0, 1, 2, 1, 0, 1, 24);
        Check.same("the old group", z.node(0, 10), 7);
        Face c = new Real();
        CHANGING_AND_FULL.on(c);
        Check.node("not joint", c, 0, 1, 2, 1, 0, 2, 24);
        Check.log("not committed", c, 3, "1:-! 1:J235");
        Check.same("no old group", c.node(0, 10), 0);
    }

    private static void refused(String call, Class<?> due, Looks.Run before, Looks.Run run) {
        Check.refused(call, due, before, run);
    }

    private static void start() {
        Check.sentence(NO_MEMBERS);
        for (int members : NO_GROUPS) {
            refused("start(" + members + ", 9)", Check.ARGUMENT, BUSY, x -> x.start(members, 9));
            refused("start(" + members + ", 9)", Check.ARGUMENT, NEW, x -> x.start(members, 9));
        }
    }

    private static void tick() {
        Check.sentence("Throws `IllegalArgumentException` if the number is out of range");
        for (int ticks : new int[] {0, 61, -1, -60, 62, MIN, MAX}) {
            refused("tick(" + ticks + ")", Check.ARGUMENT, BUSY, x -> x.tick(ticks));
        }
    }

    private static void setDelay() {
        Check.sentence("Throws `IllegalArgumentException` if the delay is out of range");
        for (int delay : new int[] {0, 6, -1, -5, MIN, MAX}) {
            refused("setDelay(" + delay + ")", Check.ARGUMENT, BUSY, x -> x.setDelay(delay));
        }
    }

    private static void setLink() {
        for (int node : NO_NODES) {
            for (int turn = 0; turn < 2; turn++) {
                boolean isCut = turn == 0;
                Check.sentence(NO_NODE);
                refused("setLink(" + node + ", 1)", Check.INDEX, BUSY, x -> x.setLink(node, 1, isCut));
                refused("setLink(3, " + node + ")", Check.INDEX, BUSY, x -> x.setLink(3, node, isCut));
                Check.sentence(FIRST);
                refused("setLink of both", Check.INDEX, BUSY, x -> x.setLink(node, node, isCut));
            }
        }
        Check.sentence("Throws `IllegalArgumentException` if both are the same");
        for (int n = 0; n < 5; n++) {
            int node = n;
            refused("setLink(" + n + ", " + n + ")", Check.ARGUMENT, BUSY, x -> x.setLink(node, node, true));
            refused("setLink(" + n + ", " + n + ")", Check.ARGUMENT, BUSY, x -> x.setLink(node, node, false));
        }
    }

    private static void crash() {
        Check.sentence(NO_NODE);
        for (int node : NO_NODES) {
            refused("crash(" + node + ")", Check.INDEX, BUSY, x -> x.crash(node));
        }
        Check.sentence("Throws `IllegalStateException` if it is down");
        refused("crash(2)", Check.STATE, BUSY, x -> x.crash(2));
    }

    private static void restart() {
        Check.sentence(NO_NODE);
        for (int node : NO_NODES) {
            refused("restart(" + node + ")", Check.INDEX, BUSY, x -> x.restart(node));
        }
        Check.sentence("Throws `IllegalStateException` if it is up");
        for (int node : new int[] {0, 1, 3, 4}) {
            refused("restart(" + node + ")", Check.STATE, BUSY, x -> x.restart(node));
        }
    }

    private static void submit() {
        Check.sentence(NO_NODE);
        for (int node : NO_NODES) {
            refused("submit(" + node + ", 1)", Check.INDEX, BUSY, x -> x.submit(node, 1));
            refused("submit(" + node + ", 1)", Check.INDEX, FULL, x -> x.submit(node, 1));
        }
        Check.sentence("Throws `IllegalStateException` if it is no leader");
        for (int node : new int[] {1, 2, 3, 4}) {
            refused("submit(" + node + ", 1)", Check.STATE, BUSY, x -> x.submit(node, 1));
        }
        refused("submit to a candidate", Check.STATE, CANDIDATE, x -> x.submit(0, 1));
        Check.sentence(FIRST);
        refused("submit to a full follower", Check.STATE, FULL, x -> x.submit(1, 1));
        Check.sentence("Throws `UnsupportedOperationException` if its log has 24 entries");
        refused("submit to a full leader", Check.UNSUPPORTED, FULL, x -> x.submit(0, 1));
        refused("submit to a full leader", Check.UNSUPPORTED, JOINT_AND_FULL, x -> x.submit(0, MIN));
    }

    private static void reconfigure() {
        Check.sentence(NO_NODE);
        for (int node : NO_NODES) {
            refused("reconfigure(" + node + ", 3)", Check.INDEX, BUSY, x -> x.reconfigure(node, 3));
        }
        Check.sentence(NO_MEMBERS);
        for (int members : NO_GROUPS) {
            refused("reconfigure(0, " + members + ")", Check.ARGUMENT, BUSY, x -> x.reconfigure(0, members));
        }
        Check.sentence("Throws `IllegalStateException` if it is no leader, or its configuration is joint or"
                + " that of an entry that is not committed");
        for (int node : new int[] {1, 2, 3, 4}) {
            refused("reconfigure(" + node + ", 3)", Check.STATE, BUSY, x -> x.reconfigure(node, 3));
        }
        refused("reconfigure of a candidate", Check.STATE, CANDIDATE, x -> x.reconfigure(0, 3));
        refused("while it is joint", Check.STATE, JOINT, x -> x.reconfigure(0, 11));
        refused("while it is not committed", Check.STATE, CHANGING, x -> x.reconfigure(0, 11));
        Check.sentence("Throws `UnsupportedOperationException` if its log has 24 entries");
        refused("with a full log", Check.UNSUPPORTED, FULL, x -> x.reconfigure(0, 3));
    }

    private static void reconfigureOrder() {
        Check.sentence(FIRST);
        refused("no node and no members", Check.INDEX, BUSY, x -> x.reconfigure(5, 0));
        refused("no node and no members", Check.INDEX, FULL, x -> x.reconfigure(-1, 32));
        refused("no members and no leader", Check.ARGUMENT, BUSY, x -> x.reconfigure(1, 0));
        refused("no members and no leader", Check.ARGUMENT, BUSY, x -> x.reconfigure(2, 32));
        refused("no members while it is joint", Check.ARGUMENT, JOINT, x -> x.reconfigure(0, 0));
        refused("no members before it is committed", Check.ARGUMENT, CHANGING, x -> x.reconfigure(0, 32));
        refused("no members and a full log", Check.ARGUMENT, FULL, x -> x.reconfigure(0, 0));
        refused("no leader and a full log", Check.STATE, FULL, x -> x.reconfigure(1, 3));
        refused("joint and a full log", Check.STATE, JOINT_AND_FULL, x -> x.reconfigure(0, 3));
        refused("not committed and a full log", Check.STATE, CHANGING_AND_FULL, x -> x.reconfigure(0, 3));
    }

    private static void pack() {
        Check.sentence(NO_NODE);
        for (int node : NO_NODES) {
            refused("pack(" + node + ")", Check.INDEX, BUSY, x -> x.pack(node));
        }
        Check.sentence("Throws `IllegalStateException` if it is down");
        refused("pack(2)", Check.STATE, BUSY, x -> x.pack(2));
    }

    private static void read() {
        Check.sentence(NO_NODE);
        for (int node : NO_NODES) {
            refused("read(" + node + ")", Check.INDEX, BUSY, x -> x.read(node));
        }
        Check.sentence("Throws `IllegalStateException` if it is no leader");
        for (int node : new int[] {1, 2, 3, 4}) {
            refused("read(" + node + ")", Check.STATE, BUSY, x -> x.read(node));
        }
        refused("read from a candidate", Check.STATE, CANDIDATE, x -> x.read(0));
        Check.sentence("Throws `UnsupportedOperationException` if it cannot answer a read");
        refused("read without a lease", Check.UNSUPPORTED, x -> x.tick(11), x -> x.read(0));
        refused("read after the lease", Check.UNSUPPORTED, x -> {
            x.tick(14);
            x.crash(1);
            x.crash(2);
            x.tick(4);
        }, x -> x.read(0));
    }

    private static void node() {
        for (int node : NO_NODES) {
            Check.sentence(NO_NODE);
            refused("node(" + node + ", 0)", Check.INDEX, BUSY, x -> x.node(node, 0));
            Check.sentence(FIRST);
            refused("node(" + node + ", 14)", Check.INDEX, BUSY, x -> x.node(node, 14));
            refused("node(" + node + ", -1)", Check.INDEX, BUSY, x -> x.node(node, -1));
        }
        Check.sentence("Throws `IllegalArgumentException` if what is out of range");
        for (int what : new int[] {-1, 14, MIN, MAX}) {
            refused("node(0, " + what + ")", Check.ARGUMENT, BUSY, x -> x.node(0, what));
            refused("node(2, " + what + ")", Check.ARGUMENT, BUSY, x -> x.node(2, what));
        }
    }

    private static void noted() {
        for (int node : NO_NODES) {
            Check.sentence(NO_NODE);
            refused("noted(" + node + ", 1, 0)", Check.INDEX, BUSY, x -> x.noted(node, 1, 0));
            refused("noted(0, " + node + ", 0)", Check.INDEX, BUSY, x -> x.noted(0, node, 0));
            Check.sentence(FIRST);
            refused("noted of both", Check.INDEX, BUSY, x -> x.noted(node, node, 0));
            refused("noted of no leader", Check.INDEX, BUSY, x -> x.noted(1, node, 0));
            refused("noted of both, 3", Check.INDEX, BUSY, x -> x.noted(node, 0, 3));
        }
        Check.sentence("Throws `IllegalArgumentException` if both are the same, or what is out of range");
        refused("noted(0, 0, 0)", Check.ARGUMENT, BUSY, x -> x.noted(0, 0, 0));
        for (int what : new int[] {-1, 3, MIN, MAX}) {
            refused("noted(0, 1, " + what + ")", Check.ARGUMENT, BUSY, x -> x.noted(0, 1, what));
        }
        Check.sentence(FIRST);
        refused("the same and no leader", Check.ARGUMENT, BUSY, x -> x.noted(4, 4, 0));
        refused("out of range and no leader", Check.ARGUMENT, BUSY, x -> x.noted(1, 0, 3));
        Check.sentence("Throws `IllegalStateException` if the first one is no leader");
        for (int leader = 1; leader < 5; leader++) {
            int node = leader;
            refused("noted(" + leader + ", 0, 0)", Check.STATE, BUSY, x -> x.noted(node, 0, 0));
        }
        refused("noted of a candidate", Check.STATE, CANDIDATE, x -> x.noted(0, 1, 0));
    }

    private static void entry() {
        for (int node : NO_NODES) {
            Check.sentence("Throws `IndexOutOfBoundsException` if there is no such node, or its log has no"
                    + " such entry");
            refused("entry(" + node + ", 1, 0)", Check.INDEX, BUSY, x -> x.entry(node, 1, 0));
            Check.sentence(FIRST);
            refused("entry(" + node + ", 1, 3)", Check.INDEX, BUSY, x -> x.entry(node, 1, 3));
        }
        Check.sentence("Throws `IndexOutOfBoundsException` if there is no such node, or its log has no such"
                + " entry");
        for (int index : new int[] {0, 4, -1, MIN, MAX}) {
            refused("entry(0, " + index + ", 0)", Check.INDEX, BUSY, x -> x.entry(0, index, 0));
            refused("entry(0, " + index + ", 3)", Check.INDEX, BUSY, x -> x.entry(0, index, 3));
        }
        for (int index : new int[] {1, 2, 3}) {
            refused("entry(1, " + index + ", 0)", Check.INDEX, BUSY, x -> x.entry(1, index, 0));
            refused("entry(3, " + index + ", 0)", Check.INDEX, BUSY, x -> x.entry(3, index, 0));
        }
        refused("entry(0, 25, 0)", Check.INDEX, FULL, x -> x.entry(0, 25, 0));
        Check.sentence("Throws `IllegalArgumentException` if what is out of range");
        for (int what : new int[] {-1, 3, MIN, MAX}) {
            refused("entry(0, 1, " + what + ")", Check.ARGUMENT, BUSY, x -> x.entry(0, 1, what));
        }
    }

    private static void message() {
        for (int i : new int[] {-1, 2, 39, 40, 41, MIN, MAX}) {
            Check.sentence("Throws `IndexOutOfBoundsException` if there is no such message");
            refused("message(" + i + ", 0)", Check.INDEX, BUSY, x -> x.message(i, 0));
            Check.sentence(FIRST);
            refused("message(" + i + ", 7)", Check.INDEX, BUSY, x -> x.message(i, 7));
        }
        Check.sentence("Throws `IndexOutOfBoundsException` if there is no such message");
        refused("message(0, 0)", Check.INDEX, NEW, x -> x.message(0, 0));
        refused("message(40, 0)", Check.INDEX, Scenes::crowd, x -> x.message(40, 0));
        Check.sentence("Throws `IllegalArgumentException` if what is out of range");
        for (int what : new int[] {-1, 7, MIN, MAX}) {
            refused("message(1, " + what + ")", Check.ARGUMENT, BUSY, x -> x.message(1, what));
        }
    }

    private static void lose() {
        Check.sentence("Throws `IndexOutOfBoundsException` if there is no such message");
        for (int i : new int[] {-1, 2, 39, 40, MIN, MAX}) {
            refused("lose(" + i + ")", Check.INDEX, BUSY, x -> x.lose(i));
        }
        refused("lose(0)", Check.INDEX, NEW, x -> x.lose(0));
        refused("lose(40)", Check.INDEX, Scenes::crowd, x -> x.lose(40));
    }

    private static void leader() {
        Check.sentence("Throws `NoSuchElementException` if there is no leader");
        refused("leader() of a new object", Check.NO_ELEMENT, NEW, x -> x.leader());
        refused("leader() with a candidate", Check.NO_ELEMENT, CANDIDATE, x -> x.leader());
        refused("leader() that is down", Check.NO_ELEMENT, x -> {
            x.tick(14);
            x.crash(0);
        }, x -> x.leader());
    }

    private static void winner() {
        Check.sentence("Throws `NoSuchElementException` if no node has won in this term, or it is greater"
                + " than 99");
        for (int term : new int[] {0, 2, 99, 100, -1, MIN, MAX}) {
            refused("winner(" + term + ")", Check.NO_ELEMENT, BUSY, x -> x.winner(term));
        }
        refused("winner(1)", Check.NO_ELEMENT, CANDIDATE, x -> x.winner(1));
    }

    private static void alike() {
        Check.sentence(NO_NODE);
        for (int node : NO_NODES) {
            refused("alike(" + node + ", 0)", Check.INDEX, BUSY, x -> x.alike(node, 0));
            refused("alike(4, " + node + ")", Check.INDEX, BUSY, x -> x.alike(4, node));
            refused("alike of both", Check.INDEX, BUSY, x -> x.alike(node, node));
        }
    }

    private static void statistic() {
        Check.sentence("Throws `IllegalArgumentException` if what is out of range");
        for (int what : new int[] {-1, 7, MIN, MAX}) {
            refused("statistic(" + what + ")", Check.ARGUMENT, BUSY, x -> x.statistic(what));
        }
    }

    private static void share() {
        Check.sentence(NO_NODE);
        for (int node : NO_NODES) {
            refused("share(" + node + ")", Check.INDEX, BUSY, x -> x.share(node));
            refused("share(" + node + ")", Check.INDEX, NEW, x -> x.share(node));
        }
        Check.sentence("Throws `ArithmeticException` if the divisor is 0");
        refused("share(0)", Check.ARITHMETIC, NEW, x -> x.share(0));
        refused("share(4)", Check.ARITHMETIC, NEW, x -> x.share(4));
        refused("share(1)", Check.ARITHMETIC, x -> {
            x.tick(14);
            x.crash(0);
            x.crash(1);
            x.crash(2);
        }, x -> x.share(1));
    }

    private static void feed() {
        Check.sentence("Throws `IllegalStateException` if the buffer already holds 80 characters");
        Looks.Run full = x -> Check.feed(x, "tick 1;".repeat(10) + "crash 001;");
        refused("feed(';')", Check.STATE, full, x -> x.feed(';'));
        refused("feed('t')", Check.STATE, full, x -> x.feed('t'));
        Looks.Run spaces = x -> Check.feed(x, " ".repeat(80));
        refused("feed(' ')", Check.STATE, spaces, x -> x.feed(' '));
    }

    private static void write() {
        Check.sentence(NO_NODE);
        for (int node : NO_NODES) {
            refused("write(" + node + ")", Check.INDEX, BUSY, x -> x.write(node));
        }
    }

    private static void text() {
        Check.sentence("Throws `IndexOutOfBoundsException` if there is no such index");
        for (int i : new int[] {-1, 9, MIN, MAX}) {
            refused("text(" + i + ")", Check.INDEX, BUSY, x -> x.text(i));
        }
        refused("text(0)", Check.INDEX, NEW, x -> x.text(0));
    }

    private static void restore() {
        Check.sentence("Throws `IllegalStateException` if nothing was saved");
        refused("restore()", Check.STATE, NEW, x -> x.restore());
        refused("restore()", Check.STATE, FULL, x -> x.restore());
        refused("restore()", Check.STATE, x -> x.start(31, 4), x -> x.restore());
    }
}
