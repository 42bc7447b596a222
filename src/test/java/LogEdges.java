/** Boundaries of the description, from the calls of an object to results. */
public final class LogEdges {
    private static final int MAX = Integer.MAX_VALUE;
    private static final int MIN = Integer.MIN_VALUE;

    private LogEdges() { }

    public static void main(String[] args) {
        calls();
        nodes();
        roles();
        indexes();
        kinds();
        firstSnapshot();
        entriesOfALog();
        lastIndexAndTerm();
        lastConfiguration();
        quorumOfVoters();
        quorumOfHolders();
        quorumOfEchoes();
        jointQuorumOfHolders();
        jointQuorumWithHalves();
        jointQuorumOfVoters();
        members();
        results();
        Check.end("LogEdges");
    }

    private static void calls() {
        Check.sentence("An object is used for at most 512 calls after it has been made");
        Face x = new Real();
        for (int i = 1; i <= 512; i++) {
            Check.same("the call " + i, x.tick(60), 60 * i);
        }
        Face y = Check.started(1, 0);
        y.tick(8);
        for (int i = 1; i <= 255; i++) {
            Check.same("submit in the call " + (2 * i + 1), y.submit(0, i), i + 1);
            Check.same("pack in the call " + (2 * i + 2), y.pack(0), i == 1 ? 2 : 1);
        }
    }

    private static void nodes() {
        Check.sentence("There are 5 nodes, numbered from 0.");
        Face x = new Real();
        for (int n = 0; n < 5; n++) {
            Check.same("the node " + n + " is up", x.node(n, 0), 1);
        }
        for (int n : new int[] {-1, 5, MIN, MAX}) {
            Check.refuses("the node " + n, Check.INDEX, () -> x.node(n, 0));
        }
    }

    private static void roles() {
        Check.sentence("a role, 0 follower, 1 candidate or 2 leader, a term, a vote, which is a node or none");
        Face x = new Real();
        Check.node("at 0", x, 0, 1, 0, 0, -1);
        x.tick(8);
        Check.node("at 8", x, 0, 1, 1, 1, 0);
        x.tick(2);
        Check.node("at 10", x, 0, 1, 2, 1, 0);
        Face y = Check.started(16, 0);
        y.tick(13);
        Check.node("the last node", y, 4, 1, 2, 1, 4);
    }

    private static void indexes() {
        Check.sentence("The indexes of entries begin with 1.");
        Face x = Check.started(1, 0);
        Check.refuses("no entry at 1", Check.INDEX, () -> x.entry(0, 1, 0));
        x.tick(8);
        Check.same("the first entry", x.entry(0, 1, 0), 1);
        Check.refuses("none at 0", Check.INDEX, () -> x.entry(0, 0, 0));
        Check.refuses("none at 2", Check.INDEX, () -> x.entry(0, 2, 0));
        Check.same("the next one", x.submit(0, 9), 2);
    }

    private static void kinds() {
        Check.sentence("Kind 0 is a value, any int; 1 is a joint configuration, with the value"
                + " 32 * old + new; 2 is a configuration, with its set of nodes as the value;"
                + " 3 is blank, with the value 0.");
        Face x = Check.started(1, 0);
        x.tick(8);
        entry(x, 0, 1, 3, 0);
        int[] values = {MIN, -1, 0, 1, MAX};
        for (int i = 0; i < values.length; i++) {
            x.submit(0, values[i]);
            entry(x, 0, i + 2, 0, values[i]);
        }
        x.reconfigure(0, 1);
        entry(x, 0, 7, 1, 33);
        entry(x, 0, 8, 2, 1);
        Face y = Check.started(31, 0);
        y.tick(14);
        y.reconfigure(0, 31);
        entry(y, 0, 2, 1, 1023);
        y.tick(3);
        entry(y, 0, 3, 2, 31);
        Face z = Check.started(16, 0);
        z.tick(13);
        z.reconfigure(4, 1);
        entry(z, 4, 2, 1, 513);
    }

    private static void entry(Face x, int node, int index, int kind, int value) {
        Check.same("the kind at " + index, x.entry(node, index, 1), kind);
        Check.same("the value at " + index, x.entry(node, index, 2), value);
    }

    private static void firstSnapshot() {
        Check.sentence("at first, the index, the term and the result are 0");
        Face x = new Real();
        for (int n = 0; n < 5; n++) {
            Check.same("the index", x.node(n, 7), 0);
            Check.same("the term", x.node(n, 6), 0);
            Check.same("the result", x.node(n, 8), 0);
        }
    }

    /** Ten entries are committed and fourteen are not, so that a snapshot leaves some in the log. */
    private static void entriesOfALog() {
        Check.sentence("The log of a node contains the entries with the indexes after that of its"
                + " snapshot, at most 24 of them");
        Face x = new Real();
        x.tick(14);
        Check.fill(x, 0, 10);
        x.tick(10);
        Check.same("committed", x.node(0, 4), 10);
        x.crash(1);
        x.crash(2);
        Check.fill(x, 0, 24);
        Check.same("24 entries", x.node(0, 5), 24);
        Check.refuses("a 25th", Check.UNSUPPORTED, () -> x.submit(0, 1));
        Check.same("ten leave", x.pack(0), 10);
        Check.refuses("entry 10", Check.INDEX, () -> x.entry(0, 10, 0));
        Check.same("entry 11", x.entry(0, 11, 2), 11);
        Check.fill(x, 0, 34);
        Check.same("24 entries again", x.node(0, 5), 34);
        Check.refuses("a 25th", Check.UNSUPPORTED, () -> x.submit(0, 1));
        Check.same("entry 34", x.entry(0, 34, 2), 34);
        Check.refuses("entry 35", Check.INDEX, () -> x.entry(0, 35, 0));
    }

    private static void lastIndexAndTerm() {
        Check.sentence("the last index is that of the last entry, or of the snapshot if there are"
                + " none, and the last term is its term");
        Face x = new Real();
        x.tick(14);
        x.submit(0, 1);
        x.pack(0);
        Check.node("an entry after the snapshot", x, 0, 1, 2, 1, 0, 1, 2, 1, 1);
        x.tick(5);
        x.pack(0);
        Check.node("none", x, 0, 1, 2, 1, 0, 2, 2, 1, 2);
        x.crash(1);
        x.crash(2);
        x.crash(0);
        x.restart(0);
        x.tick(20);
        Check.holds("its term is greater", x.node(0, 2) > 1);
        Check.node("none, and another term", x, 0, 1, 1, x.node(0, 2), 0, 2, 2, 1, 2);
    }

    private static void lastConfiguration() {
        Check.sentence("The configuration of a node is that of the last entry of kind 1 or 2 in its"
                + " log, or that of its snapshot if there is none.");
        Face x = Check.started(1, 0);
        x.tick(8);
        groups("that of the first snapshot", x, 0, 0, 1);
        x.reconfigure(0, 3);
        groups("joint", x, 0, 1, 3);
        x.submit(0, 5);
        groups("joint with an entry after it", x, 0, 1, 3);
        groups("of a node without entries", x, 1, 0, 1);
        x.tick(12);
        Check.log("two configurations", x, 0, "1:-! 1:J35! 1:5! 1:C3!");
        groups("the last one", x, 0, 0, 3);
        x.submit(0, 6);
        Check.same("pack", x.pack(0), 4);
        groups("that of the snapshot", x, 0, 0, 3);
    }

    private static void groups(String when, Face x, int node, int old, int young) {
        Check.same(when + ": the old group", x.node(node, 10), old);
        Check.same(when + ": the new group", x.node(node, 11), young);
    }

    private static final String QUORUM =
            "A set of nodes is a quorum if it contains, for each group, more than half of the nodes"
            + " of this group.";

    private static boolean isMajority(int set, int group) {
        return 2 * Integer.bitCount(set & group) > Integer.bitCount(group);
    }

    /** Crashes the nodes that are up and not in the set. */
    private static void leaveUp(Face x, int set) {
        for (int n = 0; n < 5; n++) {
            if ((set >> n & 1) == 0 && x.node(n, 0) == 1) {
                x.crash(n);
            }
        }
    }

    private static void quorumOfVoters() {
        Check.sentence(QUORUM);
        for (int size = 1; size <= 5; size++) {
            for (int up = 1; up <= size; up++) {
                Face x = Check.started((1 << size) - 1, 0);
                leaveUp(x, (1 << up) - 1);
                x.tick(60);
                x.tick(60);
                Check.same(up + " of " + size + " can elect", x.statistic(4) > 0 ? 1 : 0,
                        2 * up > size ? 1 : 0);
            }
        }
    }

    private static void quorumOfHolders() {
        Check.sentence(QUORUM);
        for (int size = 1; size <= 5; size++) {
            for (int up = 1; up <= size; up++) {
                Face x = Check.started((1 << size) - 1, 0);
                x.tick(14);
                leaveUp(x, (1 << up) - 1);
                x.submit(0, 7);
                x.tick(5);
                Check.same(up + " of " + size + " can commit", x.node(0, 4), 2 * up > size ? 2 : 1);
            }
        }
    }

    private static void quorumOfEchoes() {
        Check.sentence(QUORUM);
        for (int size = 2; size <= 5; size++) {
            for (int up = 1; up <= size; up++) {
                Face x = Check.started((1 << size) - 1, 0);
                x.tick(14);
                leaveUp(x, (1 << up) - 1);
                x.tick(6);
                Check.same("the lease with " + up + " of " + size, x.node(0, 12), 2 * up > size ? 24 : 18);
            }
        }
    }

    /** From the group 0, 1, 2 to the group 0, 3, 4, with each set of the others. */
    private static void jointQuorumOfHolders() {
        Check.sentence(QUORUM);
        for (int set = 1; set < 32; set += 2) {
            Face x = new Real();
            x.tick(14);
            x.reconfigure(0, 25);
            leaveUp(x, set);
            x.tick(3);
            boolean isQuorum = isMajority(set, 7) && isMajority(set, 25);
            Check.same("commit with the nodes " + set, x.node(0, 4), isQuorum ? 2 : 1);
            int lease = isQuorum ? 21 : !isMajority(set, 25) ? -1 : 18;
            Check.same("the lease with the nodes " + set, x.node(0, 12), lease);
        }
    }

    /** Half of a group is never enough, whichever of both it is. */
    private static void jointQuorumWithHalves() {
        Check.sentence(QUORUM);
        int[][] changes = {{3, 13}, {13, 3}, {15, 25}, {25, 15}, {15, 15}, {3, 3}, {31, 1}, {1, 31}};
        for (int[] change : changes) {
            for (int set = 1; set < 32; set += 2) {
                Face x = Check.started(change[0], 0);
                x.tick(14);
                x.reconfigure(0, change[1]);
                leaveUp(x, set);
                x.tick(5);
                boolean isQuorum = isMajority(set, change[0]) && isMajority(set, change[1]);
                Check.same("from " + change[0] + " to " + change[1] + " with " + set, x.entry(0, 2, 1), 1);
                Check.same("from " + change[0] + " to " + change[1] + " with " + set,
                        x.node(0, 4) >= 2 ? 1 : 0, isQuorum ? 1 : 0);
            }
        }
    }

    /** All have the joint configuration, and who stands needs both groups. */
    private static void jointQuorumOfVoters() {
        Check.sentence(QUORUM);
        for (int set = 1; set < 32; set++) {
            Face x = new Real();
            x.tick(14);
            x.reconfigure(0, 25);
            x.tick(2);
            Check.loseAll(x);
            for (int n = 0; n < 5; n++) {
                Check.same("joint", x.node(n, 10), 7);
            }
            x.crash(0);
            if ((set & 1) == 1) {
                x.restart(0);
            }
            leaveUp(x, set);
            x.tick(60);
            x.tick(60);
            x.tick(60);
            boolean isQuorum = isMajority(set, 7) && isMajority(set, 25);
            Check.same("an election among " + set, x.statistic(4) > 1 ? 1 : 0, isQuorum ? 1 : 0);
        }
    }

    private static void members() {
        Check.sentence("Its members are the nodes of its groups.");
        Face x = new Real();
        Scenes.three(x);
        x.reconfigure(0, 17);
        x.tick(1);
        int[] members = {1, 2, 4};
        Check.same("messages to the members of both groups", x.messages(), 3);
        for (int i = 0; i < 3; i++) {
            Check.same("in ascending order", x.message(i, 2), members[i]);
        }
        x.tick(2);
        Check.same("not joint", x.node(0, 10), 0);
        Check.loseAll(x);
        x.tick(1);
        Check.same("messages to the members of the new group", x.messages(), 1);
        Check.same("the other one", x.message(0, 2), 4);
        x.crash(0);
        int timer = x.node(3, 9);
        x.tick(7);
        Check.same("a member counts down by its own configuration", x.node(4, 9), 8);
        Check.same("no member does not", x.node(3, 9), timer);
    }

    private static void results() {
        Check.sentence("an entry of kind 0 makes it 31 * result + value, with overflow");
        Face x = Check.started(1, 0);
        x.tick(8);
        Check.same("a blank entry does not change it", x.node(0, 8), 0);
        int due = 0;
        for (int value : new int[] {1, MAX, MAX, MIN, -1, 0, MIN}) {
            x.submit(0, value);
            due = 31 * due + value;
            Check.same("the result after " + value, x.node(0, 8), due);
            Check.same("what is read after " + value, x.read(0), due);
        }
        x.reconfigure(0, 1);
        Check.same("configurations do not change it", x.node(0, 8), due);
        x.submit(0, 2);
        due = 31 * due + 2;
        Check.same("after configurations", x.node(0, 8), due);
        Check.sentence("The result of a node is that of its snapshot, changed by the entries up to its"
                + " commit index in their order");
        x.pack(0);
        Check.same("that of the snapshot", x.node(0, 8), due);
        x.submit(0, MAX);
        Check.same("with an entry after the snapshot", x.node(0, 8), 31 * due + MAX);
        x.crash(0);
        Check.same("while it is down", x.node(0, 8), 31 * due + MAX);
        x.restart(0);
        Check.same("an entry after the commit index does not count", x.node(0, 8), due);
    }
}
