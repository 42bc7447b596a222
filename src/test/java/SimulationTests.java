/** Promises 1 to 11: the simulation. */
public final class SimulationTests {
    private static final int MAX = Integer.MAX_VALUE;
    private static final int MIN = Integer.MIN_VALUE;

    private SimulationTests() { }

    public static void main(String[] args) {
        promise1();
        promise2();
        promise2BeginsAnew();
        promise2AfterMore();
        promise2Timers();
        promise3();
        promise3Election();
        promise3Replication();
        promise3Votes();
        promise3TwoCandidates();
        promise3GreaterTerm();
        promise3ConfigurationOverwritten();
        promise3Conflict();
        promise3SnapshotMessage();
        promise3Batches();
        promise3FullFollower();
        promise4();
        promise5();
        promise6();
        promise7();
        promise8();
        promise8FullLog();
        promise9();
        promise9Alone();
        promise9WithoutTheLeader();
        promise9Order();
        promise10();
        promise10Joint();
        promise11();
        promise11OwnTerm();
        Check.end("SimulationTests");
    }

    private static void promise1() {
        Face x = new Real();
        int[] timers = {8, 11, 14, 10, 13};
        for (int n = 0; n < 5; n++) {
            Check.node("new", x, n, 1, 0, 0, -1, 0, 0, 0, 0, 0, timers[n], 0, 7, -1, 0);
        }
        for (int what = 0; what <= 6; what++) {
            Check.same("statistic " + what, x.statistic(what), 0);
        }
        for (int n = 0; n < 4; n++) {
            Check.holds("no link is cut", !x.setLink(n, n + 1, false));
        }
        Check.same("messages", x.messages(), 0);
        Check.refuses("leader", Check.NO_ELEMENT, () -> x.leader());
        Check.refuses("winner", Check.NO_ELEMENT, () -> x.winner(0));
        Check.refuses("text", Check.INDEX, () -> x.text(0));
        Check.refuses("restore", Check.STATE, () -> x.restore());
        Check.same("delay", x.setDelay(2), 1);
        Check.same("perform", x.perform(), -100);
    }

    private static void promise2() {
        Face x = new Real();
        x.tick(3);
        for (int members : new int[] {0, 32, 63, -1, MIN, MAX}) {
            Check.refuses("start(" + members + ")", Check.ARGUMENT, () -> x.start(members, 1));
        }
        Check.same("the time after what was refused", x.statistic(0), 3);
        Check.same("the members after what was refused", x.node(4, 11), 7);
        Check.same("start(31, 5)", x.start(31, 5), 5);
        Check.same("start(26, 5)", x.start(26, 5), 3);
        Check.same("start(16, 5)", x.start(16, 5), 1);
        for (int n = 0; n < 5; n++) {
            Check.same("the members of " + n, x.node(n, 11), 16);
            Check.same("the old members of " + n, x.node(n, 10), 0);
        }
    }

    private static void promise2BeginsAnew() {
        Face x = new Real();
        x.tick(20);
        x.submit(0, 7);
        x.tick(5);
        x.pack(0);
        x.submit(0, 9);
        x.write(0);
        char first = x.text(0);
        x.feed('t');
        x.save();
        x.setDelay(4);
        x.setLink(3, 1, true);
        x.tick(2);
        x.crash(2);
        Check.holds("there are messages", x.messages() > 0);
        x.lose(0);
        Check.same("start", x.start(11, 40), 3);
        for (int n = 0; n < 5; n++) {
            Check.node("begun anew", x, n, 1, 0, 0, -1, 0, 0, 0, 0, 0, timeout(40, 0, n), 0, 11, -1, 0);
        }
        for (int what = 0; what <= 6; what++) {
            Check.same("statistic " + what, x.statistic(what), 0);
        }
        Check.same("messages", x.messages(), 0);
        Check.refuses("winner", Check.NO_ELEMENT, () -> x.winner(1));
        Check.holds("the link is joined", !x.setLink(1, 3, false));
        Check.same("delay", x.setDelay(1), 1);
        Check.same("the input buffer stays", x.feed('i'), 2);
        Check.same("the text stays", x.text(0), first);
        Check.same("what was saved stays", x.restore(), 25);
    }

    private static void promise2AfterMore() {
        Face x = withConflict();
        int leader = x.leader();
        x.setLink(0, 1, false);
        x.setLink(0, 2, false);
        x.tick(20);
        x.submit(leader, 1);
        x.setLink(0, leader, true);
        x.tick(10);
        x.pack(leader);
        x.setLink(0, leader, false);
        x.tick(20);
        Check.holds("removed", x.statistic(5) > 0);
        Check.holds("snapshots", x.statistic(6) > 0);
        x.start(1, 3);
        for (int what = 0; what <= 6; what++) {
            Check.same("statistic " + what, x.statistic(what), 0);
        }
        fillJoint(x);
        x.pack(0);
        Check.same("joint by its snapshot", x.node(0, 10), 1);
        x.start(1, 3);
        Check.same("not joint", x.node(0, 10), 0);
        Check.log("no snapshot", x, 0, "");
    }

    /** Leaves the leader with a joint configuration as the last of 24 entries. */
    private static void fillJoint(Face x) {
        x.tick(16);
        for (int i = 2; i <= 23; i++) {
            x.submit(0, i);
        }
        Check.same("the last entry", x.reconfigure(0, 1), 24);
    }

    private static int timeout(int seed, int term, int node) {
        long x = (seed + 5L * term + node) * 2654435769L & 0xFFFFFFFFL;
        return 8 + (int) (x >> 20 & 7);
    }

    private static void promise2Timers() {
        for (int seed : new int[] {0, 1, -1, 77, -1000, MAX, MIN, MAX - 3}) {
            Face x = Check.started(31, seed);
            int first = 99;
            for (int n = 0; n < 5; n++) {
                Check.same("timer of " + n + " with seed " + seed, x.node(n, 9), timeout(seed, 0, n));
                first = Math.min(first, x.node(n, 9));
            }
            x.tick(first);
            for (int n = 0; n < 5; n++) {
                if (x.node(n, 1) == 1) {
                    Check.same("timer in the term 1", x.node(n, 9), timeout(seed, 1, n));
                }
            }
        }
    }

    private static void promise3() {
        Face x = new Real();
        for (int ticks : new int[] {0, -1, 61, MIN, MAX}) {
            Check.refuses("tick(" + ticks + ")", Check.ARGUMENT, () -> x.tick(ticks));
        }
        Check.same("the time", x.statistic(0), 0);
        Check.same("tick(1)", x.tick(1), 1);
        Check.same("tick(60)", x.tick(60), 61);
        Check.same("a node that is no member does not count down", x.node(3, 9), 10);
        Check.same("and does not vote", x.node(3, 2), 0);
    }

    /** Seed 0: the node 0 has the least timeout, 8. */
    private static void promise3Election() {
        Face x = new Real();
        x.tick(7);
        Check.node("at 7", x, 0, 1, 0, 0, -1, 0, 0, 0, 0, 0, 1);
        Check.same("messages at 7", x.messages(), 0);
        x.tick(1);
        Check.node("at 8", x, 0, 1, 1, 1, 0, 0, 0, 0, 0, 0, 9, 0, 7, -1, 1);
        Check.same("messages at 8", x.messages(), 2);
        Check.message("at 8", x, 0, 0, 0, 1, 1, 9, 0, 0);
        Check.message("at 8", x, 1, 0, 0, 2, 1, 9, 0, 0);
        x.tick(1);
        Check.node("at 9", x, 1, 1, 0, 1, 0, 0, 0, 0, 0, 0, 11);
        Check.node("at 9", x, 2, 1, 0, 1, 0, 0, 0, 0, 0, 0, 7);
        Check.message("at 9", x, 0, 1, 1, 0, 1, 10, 0, 1);
        Check.message("at 9", x, 1, 1, 2, 0, 1, 10, 0, 1);
        x.tick(1);
        Check.node("at 10", x, 0, 1, 2, 1, 0, 0, 1, 1, 0, 0, 2, 0, 7, -1, 0);
        Check.same("messages at 10", x.messages(), 2);
        Check.message("at 10", x, 0, 2, 0, 1, 1, 11, 0, 1);
        Check.message("at 10", x, 1, 2, 0, 2, 1, 11, 0, 1);
        Check.same("who stood", x.statistic(3), 1);
        Check.same("who won", x.statistic(4), 1);
        Check.same("winner(1)", x.winner(1), 0);
    }

    private static void promise3Replication() {
        Face x = new Real();
        x.tick(11);
        Check.node("at 11", x, 1, 1, 0, 1, 0, 0, 1, 1, 0, 0, 11);
        Check.message("at 11", x, 0, 3, 1, 0, 1, 12, 1, 1);
        x.tick(1);
        Check.node("at 12", x, 0, 1, 2, 1, 0, 1, 1, 1, 0, 0, 3, 0, 7, 16, 0);
        Check.message("at 12", x, 0, 2, 0, 1, 1, 13, 1, 0);
        Check.same("the follower does not know of it", x.node(1, 4), 0);
        x.tick(1);
        Check.same("the follower knows of it", x.node(1, 4), 1);
        Check.same("what was sent", x.statistic(1), 12);
        Check.same("what was lost", x.statistic(2), 0);
        Check.log("at 13", x, 2, "1:-!");
    }

    /** A log that is behind gets no vote from one that is ahead; a second one in a term neither. */
    private static void promise3Votes() {
        Face x = new Real();
        x.tick(9);
        x.setLink(0, 2, true);
        x.tick(6);
        Check.log("is ahead", x, 1, "1:-!");
        x.crash(0);
        x.setLink(0, 2, false);
        x.crash(1);
        while (x.node(2, 1) != 1) {
            x.tick(1);
        }
        x.lose(0);
        Check.same("it sends its last index", x.message(0, 5), x.node(2, 5));
        x.restart(1);
        int timer = x.node(1, 9);
        x.tick(1);
        boolean isBehind = x.node(2, 5) < x.node(1, 5);
        Check.holds("it is behind", isBehind);
        Check.message("refused", x, 0, 1, 1, 2, x.node(2, 2), x.statistic(0) + 1, 0, 0);
        Check.same("its timer is not reset", x.node(1, 9), timer - 1);
        Check.same("it has no vote in the new term", x.node(1, 3), -1);
        Check.same("but the new term", x.node(1, 2), x.node(2, 2));
        x.tick(1);
        Check.same("it is still a candidate", x.node(2, 1), 1);
        Check.same("with itself as its only voter", x.node(2, 13), 4);
    }

    /** A delay of 4 lets the nodes 0 and 1 stand in the same term, at 8 and 11. */
    private static void promise3TwoCandidates() {
        Face x = new Real();
        x.setDelay(4);
        x.tick(11);
        Check.node("the first one", x, 0, 1, 1, 1, 0);
        Check.node("the second one", x, 1, 1, 1, 1, 1);
        Check.same("messages", x.messages(), 4);
        x.tick(1);
        Check.message("the second one refuses", x, 2, 1, 1, 0, 1, 16, 0, 0);
        Check.message("the third node grants", x, 3, 1, 2, 0, 1, 16, 0, 1);
        x.tick(3);
        Check.message("the first one refuses", x, 2, 1, 0, 1, 1, 19, 0, 0);
        Check.message("the third node has voted", x, 3, 1, 2, 1, 1, 19, 0, 0);
        Check.same("its vote stays", x.node(2, 3), 0);
        x.tick(1);
        Check.same("the first one wins", x.node(0, 1), 2);
        Check.same("the second one has only itself", x.node(1, 13), 2);
        x.tick(4);
        Check.node("the second one follows", x, 1, 1, 0, 1, 1, 0, 1, 1, 0, 0, timeout(0, 1, 1) - 1);
        Check.same("and has no voters", x.node(1, 13), 0);
    }

    /** A leader that was cut off learns of the greater term by a failure with the index 0. */
    private static void promise3GreaterTerm() {
        Face x = withConflict();
        int newer = x.leader();
        int other = 3 - newer;
        x.setLink(0, other, false);
        while (x.messages() == 0 || x.message(0, 1) != 0) {
            x.tick(1);
        }
        int term = x.node(newer, 2);
        Check.message("sent by the old leader", x, 0, 2, 0, other, 1, x.statistic(0) + 1, 1, 4);
        x.tick(1);
        int answer = x.message(0, 0) == 3 ? 0 : 1;
        Check.message("failure", x, answer, 3, other, 0, term, x.statistic(0) + 1, 0, 0);
        Check.same("it does not follow yet", x.node(0, 1), 2);
        int timer = x.node(0, 9);
        x.tick(1);
        Check.node("it follows", x, 0, 1, 0, term, -1, 1, 7, 1);
        Check.same("its timer is kept", x.node(0, 9), timer - 1);
        Check.refuses("its notes are gone", Check.STATE, () -> x.noted(0, 1, 0));
    }

    private static void promise3ConfigurationOverwritten() {
        Face x = new Real();
        x.tick(14);
        x.setLink(0, 1, true);
        x.setLink(0, 2, true);
        x.reconfigure(0, 9);
        Check.same("joint", x.node(0, 10), 7);
        Check.same("the new group", x.node(0, 11), 9);
        x.tick(40);
        Check.log("not committed", x, 0, "1:-! 1:J233");
        x.setLink(0, 1, false);
        x.setLink(0, 2, false);
        x.tick(20);
        Check.same("removed", x.statistic(5), 1);
        Check.same("not joint", x.node(0, 10), 0);
        Check.same("the group as before", x.node(0, 11), 7);
    }

    private static Face withConflict() {
        Face x = new Real();
        x.tick(14);
        x.setLink(0, 1, true);
        x.setLink(0, 2, true);
        for (int i = 1; i <= 6; i++) {
            x.submit(0, i);
        }
        x.tick(40);
        return x;
    }

    private static void promise3Conflict() {
        Face x = withConflict();
        Check.log("alone", x, 0, "1:-! 1:1 1:2 1:3 1:4 1:5 1:6");
        Check.same("the old leader leads still", x.node(0, 1), 2);
        int leader = x.leader();
        Check.holds("there is a newer leader", leader != 0);
        Check.same("alike up to", x.alike(0, leader), 1);
        x.submit(leader, 50);
        x.setLink(0, 1, false);
        x.setLink(0, 2, false);
        x.tick(20);
        Check.same("the old leader follows", x.node(0, 1), 0);
        Check.same("removed", x.statistic(5), 6);
        Check.same("alike", x.alike(0, leader), x.node(leader, 5));
        Check.same("committed", x.node(0, 4), x.node(leader, 5));
        Check.same("the result", x.node(0, 8), 50);
    }

    private static void promise3SnapshotMessage() {
        Face x = withConflict();
        int leader = x.leader();
        x.submit(leader, 50);
        x.tick(12);
        int index = x.node(leader, 4);
        Check.same("packed", x.pack(leader), index);
        x.submit(leader, 51);
        x.setLink(0, 1, false);
        x.setLink(0, 2, false);
        boolean isSeen = false;
        for (int i = 0; i < 20; i++) {
            x.tick(1);
            for (int m = 0; m < x.messages(); m++) {
                if (x.message(m, 0) == 4) {
                    isSeen = true;
                    Check.message("snapshot", x, m, 4, leader, 0, x.node(leader, 2),
                            x.statistic(0) + 1, index, x.node(leader, 6));
                }
            }
        }
        Check.holds("a snapshot was sent", isSeen);
        Check.same("installed", x.statistic(6), 1);
        Check.same("none is counted as removed", x.statistic(5), 0);
        Check.same("its snapshot", x.node(0, 7), index);
        Check.same("its commit index", x.node(0, 4), index + 1);
        Check.same("its result", x.node(0, 8), 31 * 50 + 51);
        Check.same("its configuration", x.node(0, 11), 7);
    }

    private static void promise3Batches() {
        Face x = new Real();
        x.tick(14);
        for (int i = 0; i < 6; i++) {
            x.submit(0, i);
        }
        Check.same("nothing is sent yet", x.messages(), 0);
        x.tick(1);
        Check.message("four at most", x, 0, 2, 0, 1, 1, 16, 1, 4);
        x.tick(2);
        Check.same("the match", x.noted(0, 1, 1), 5);
        Check.same("the next index", x.noted(0, 1, 0), 6);
        Check.same("the commit index", x.node(0, 4), 5);
        x.tick(1);
        Check.message("the rest", x, 0, 2, 0, 1, 1, 19, 5, 2);
    }

    /** A follower that has packed less than its leader has no room for all entries. */
    private static void promise3FullFollower() {
        Face x = new Real();
        x.tick(14);
        for (int i = 0; i < 23; i++) {
            x.submit(0, i);
        }
        x.tick(30);
        Check.same("all is committed", x.node(0, 4), 24);
        x.pack(0);
        x.submit(0, 100);
        x.submit(0, 101);
        x.tick(12);
        Check.same("the log of the follower is full", x.node(1, 5), 24);
        Check.same("so the match stays", x.noted(0, 1, 1), 24);
        Check.same("and nothing is committed", x.node(0, 4), 24);
        x.pack(1);
        x.tick(8);
        Check.same("with room in one it is", x.node(0, 4), 26);
        Check.log("the other one", x, 1, "[24] 1:100! 1:101!");
    }

    private static void promise4() {
        Face x = new Real();
        for (int delay : new int[] {0, 6, -1, MIN, MAX}) {
            Check.refuses("setDelay(" + delay + ")", Check.ARGUMENT, () -> x.setDelay(delay));
        }
        Check.same("from 1 to 5", x.setDelay(5), 1);
        Check.same("from 5 to 2", x.setDelay(2), 5);
        x.tick(8);
        Check.same("the due time", x.message(0, 4), 10);
        x.setDelay(1);
        x.tick(1);
        Check.same("sent before", x.messages(), 2);
        Check.same("not received", x.node(1, 2), 0);
        x.tick(1);
        Check.same("received", x.node(1, 2), x.node(0, 2));
        Check.same("from 1 to 1", x.setDelay(1), 1);
    }

    private static void promise5() {
        Face x = new Real();
        for (int node : new int[] {-1, 5, MIN, MAX}) {
            Check.refuses("setLink(" + node + ", 0)", Check.INDEX, () -> x.setLink(node, 0, true));
            Check.refuses("setLink(0, " + node + ")", Check.INDEX, () -> x.setLink(0, node, true));
            Check.refuses("both", Check.INDEX, () -> x.setLink(node, node, true));
        }
        Check.refuses("setLink(4, 4)", Check.ARGUMENT, () -> x.setLink(4, 4, true));
        for (int i = 0; i < 5; i++) {
            for (int j = 0; j < i; j++) {
                Check.holds("not cut", !x.setLink(i, j, true));
                Check.holds("cut", x.setLink(j, i, true));
                Check.holds("cut in both directions", x.setLink(i, j, false));
                Check.holds("joined", !x.setLink(j, i, false));
            }
        }
        x.setLink(0, 1, true);
        x.tick(8);
        Check.same("one message", x.messages(), 1);
        Check.same("for the other node", x.message(0, 2), 2);
        Check.same("two were sent", x.statistic(1), 2);
        Check.same("one was lost", x.statistic(2), 1);
        x.setLink(0, 2, true);
        x.tick(1);
        Check.same("a message that was sent before arrives", x.node(2, 3), 0);
        Check.same("its reply is lost", x.statistic(2), 2);
        Check.same("there is none", x.messages(), 0);
    }

    private static void promise6() {
        Face x = new Real();
        for (int node : new int[] {-1, 5, MIN, MAX}) {
            Check.refuses("crash(" + node + ")", Check.INDEX, () -> x.crash(node));
        }
        x.tick(12);
        Check.same("crash of the leader", x.crash(0), 1);
        Check.node("down", x, 0, 0, 0, 1, 0, 1, 1, 1, 0, 0, 3, 0, 7, -1, 0);
        Check.refuses("crash again", Check.STATE, () -> x.crash(0));
        Check.refuses("leader", Check.NO_ELEMENT, () -> x.leader());
        Check.same("crash of a follower", x.crash(1), 1);
        int timer = x.node(1, 9);
        Check.same("messages are under way", x.messages(), 2);
        x.tick(1);
        Check.same("the one to it is lost", x.statistic(2), 1);
        Check.same("its timer is kept", x.node(1, 9), timer);
        Check.same("the one to the other node is answered", x.messages(), 1);
        x.tick(1);
        Check.same("and this answer is lost", x.statistic(2), 2);
        Face y = new Real();
        y.tick(8);
        y.crash(0);
        Check.node("a candidate", y, 0, 0, 0, 1, 0);
        Check.same("has no voters then", y.node(0, 13), 0);
    }

    private static void promise7() {
        Face x = new Real();
        for (int node : new int[] {-1, 5, MIN, MAX}) {
            Check.refuses("restart(" + node + ")", Check.INDEX, () -> x.restart(node));
        }
        Check.refuses("restart of a node that is up", Check.STATE, () -> x.restart(0));
        x.tick(14);
        x.submit(0, 3);
        x.submit(0, 4);
        x.tick(6);
        Check.same("committed", x.node(0, 4), 3);
        x.crash(0);
        x.tick(1);
        Check.same("restart", x.restart(0), 3);
        Check.node("restarted", x, 0, 1, 0, 1, 0, 0, 3, 1, 0, 0, timeout(0, 1, 0), 0, 7, -1, 0);
        x.pack(1);
        int index = x.node(1, 4);
        x.crash(1);
        Check.same("restart with a snapshot", x.restart(1), 3);
        Check.same("its commit index", x.node(1, 4), index);
        Check.same("its vote", x.node(1, 3), 0);
    }

    private static void promise8() {
        Face x = new Real();
        x.tick(14);
        for (int node : new int[] {-1, 5, MIN, MAX}) {
            Check.refuses("submit(" + node + ")", Check.INDEX, () -> x.submit(node, 1));
        }
        Check.refuses("submit to a follower", Check.STATE, () -> x.submit(1, 1));
        Check.refuses("submit to no member", Check.STATE, () -> x.submit(4, 1));
        Check.same("submit", x.submit(0, MIN), 2);
        Check.same("submit", x.submit(0, -5), 3);
        Check.same("the kind", x.entry(0, 2, 1), 0);
        Check.same("the value", x.entry(0, 2, 2), MIN);
        Check.same("the term", x.entry(0, 2, 0), 1);
        Check.same("it is not sent at once", x.messages(), 0);
        Check.same("nor committed", x.node(0, 4), 1);
        x.crash(0);
        Check.refuses("submit to a node that is down", Check.STATE, () -> x.submit(0, 1));
    }

    private static void promise8FullLog() {
        Face x = Check.started(4, 0);
        x.tick(14);
        for (int i = 2; i <= 24; i++) {
            Check.same("submit", x.submit(2, i), i);
            Check.same("is committed at once", x.node(2, 4), i);
        }
        Check.refuses("submit to a full log", Check.UNSUPPORTED, () -> x.submit(2, 1));
        Check.refuses("a node that does not lead", Check.STATE, () -> x.submit(1, 1));
        Check.same("the last index", x.node(2, 5), 24);
        x.pack(2);
        Check.same("with room again", x.submit(2, 1), 25);
    }

    private static void promise9() {
        Face x = new Real();
        for (int node : new int[] {-1, 5, MIN, MAX}) {
            Check.refuses("node " + node, Check.INDEX, () -> x.reconfigure(node, 0));
        }
        for (int members : new int[] {0, 32, -1, MIN, MAX}) {
            Check.refuses("members " + members, Check.ARGUMENT, () -> x.reconfigure(0, members));
        }
        Check.refuses("a node that does not lead", Check.STATE, () -> x.reconfigure(0, 3));
        x.tick(14);
        Check.same("reconfigure", x.reconfigure(0, 30), 2);
        Check.log("joint", x, 0, "1:-! 1:J254");
        Check.same("its old group", x.node(0, 10), 7);
        Check.same("its new group", x.node(0, 11), 30);
        Check.refuses("while it is joint", Check.STATE, () -> x.reconfigure(0, 7));
        x.tick(1);
        Check.same("it is sent to all members of both groups", x.messages(), 4);
        x.tick(1);
        Check.log("still joint", x, 0, "1:-! 1:J254");
        x.tick(1);
        Check.log("the new group", x, 0, "1:-! 1:J254! 1:C30");
        Check.same("no old group", x.node(0, 10), 0);
        Check.refuses("while it is not committed", Check.STATE, () -> x.reconfigure(0, 7));
        Check.same("it leads still", x.leader(), 0);
        x.tick(3);
        Check.same("it leads no more", x.node(0, 1), 0);
        Check.log("as it is committed", x, 0, "1:-! 1:J254! 1:C30!");
        Check.same("its timer is reset and does not run", x.node(0, 9), timeout(0, 1, 0));
    }

    /** The entry of the new group is not committed by the call that appends it. */
    private static void promise9Alone() {
        Face x = Check.started(1, 3);
        x.tick(16);
        Check.same("reconfigure", x.reconfigure(0, 1), 2);
        Check.log("alone", x, 0, "1:-! 1:J33! 1:C1");
        Check.refuses("not committed", Check.STATE, () -> x.reconfigure(0, 3));
        Check.same("submit", x.submit(0, 4), 4);
        Check.log("alone", x, 0, "1:-! 1:J33! 1:C1! 1:4!");
        for (int i = 5; i <= 24; i++) {
            x.submit(0, i);
        }
        Check.refuses("a full log", Check.UNSUPPORTED, () -> x.reconfigure(0, 3));
        x.pack(0);
        Check.same("the configuration of the snapshot is committed", x.reconfigure(0, 3), 25);
    }

    private static void promise9WithoutTheLeader() {
        Face x = Check.started(3, 0);
        x.tick(14);
        Check.same("the leader", x.leader(), 0);
        x.reconfigure(0, 4);
        x.tick(40);
        Check.same("it follows", x.node(0, 1), 0);
        Check.same("the new member leads", x.leader(), 2);
        Check.same("alone", x.node(2, 11), 4);
        Check.same("and commits", x.node(2, 4), x.node(2, 5));
        Check.same("submit", x.submit(2, 8), x.node(2, 4));
    }

    /** A joint configuration in a full log waits for room. */
    private static void promise9Order() {
        Face x = Check.started(1, 3);
        fillJoint(x);
        Check.node("joint", x, 0, 1, 2, 1, 0, 24, 24, 1, 0);
        Check.same("its old group", x.node(0, 10), 1);
        Check.refuses("joint and full", Check.STATE, () -> x.reconfigure(0, 1));
        Check.refuses("full", Check.UNSUPPORTED, () -> x.submit(0, 1));
        Check.same("pack", x.pack(0), 24);
        Check.same("its old group is in the snapshot", x.node(0, 10), 1);
        Check.same("submit", x.submit(0, 5), 25);
        Check.log("the new group", x, 0, "[24] 1:5! 1:C1");
    }

    private static void promise10() {
        Face x = new Real();
        for (int node : new int[] {-1, 5, MIN, MAX}) {
            Check.refuses("pack(" + node + ")", Check.INDEX, () -> x.pack(node));
        }
        Check.same("nothing to pack", x.pack(4), 0);
        x.tick(14);
        x.submit(0, 3);
        x.submit(0, 4);
        x.tick(4);
        x.submit(0, 5);
        Check.log("before", x, 0, "1:-! 1:3! 1:4! 1:5");
        Check.same("pack", x.pack(0), 3);
        Check.log("after", x, 0, "[3] 1:5");
        Check.node("after", x, 0, 1, 2, 1, 0, 3, 4, 1, 3, 31 * 3 + 4);
        Check.same("pack again", x.pack(0), 0);
        x.tick(6);
        Check.same("the result goes on", x.node(0, 8), 31 * (31 * 3 + 4) + 5);
        Check.same("pack the last one", x.pack(0), 1);
        Check.log("no entries", x, 0, "[4]");
        Check.same("the last term is that of the snapshot", x.node(0, 6), 1);
        Check.same("the earlier term stays", x.pack(0) + x.node(0, 6), 1);
        x.crash(1);
        Check.refuses("pack of a node that is down", Check.STATE, () -> x.pack(1));
    }

    /** The entries of configurations leave the log, and the configuration stays. */
    private static void promise10Joint() {
        Face x = new Real();
        x.tick(14);
        x.reconfigure(0, 3);
        x.tick(6);
        Check.log("before", x, 0, "1:-! 1:J227! 1:C3!");
        x.submit(0, 1);
        Check.same("pack", x.pack(0), 3);
        Check.same("the group", x.node(0, 11), 3);
        Check.same("no old group", x.node(0, 10), 0);
        x.crash(0);
        x.restart(0);
        Check.same("the commit index", x.node(0, 4), 3);
        Check.same("the group after a restart", x.node(0, 11), 3);
        Check.log("a node that is a member no more", x, 2, "1:-! 1:J227");
        Check.same("has the joint configuration", x.node(2, 10), 7);
    }

    private static void promise11() {
        Face x = new Real();
        for (int node : new int[] {-1, 5, MIN, MAX}) {
            Check.refuses("read(" + node + ")", Check.INDEX, () -> x.read(node));
        }
        Check.refuses("read from a follower", Check.STATE, () -> x.read(0));
        x.tick(11);
        Check.refuses("no lease yet", Check.UNSUPPORTED, () -> x.read(0));
        Check.same("no lease yet", x.node(0, 12), -1);
        x.tick(1);
        Check.same("read", x.read(0), 0);
        x.submit(0, 9);
        Check.same("what is not committed is not read", x.read(0), 0);
        x.tick(5);
        Check.same("read", x.read(0), 9);
        Check.same("the lease", x.node(0, 12), 21);
        x.setLink(0, 1, true);
        x.setLink(0, 2, true);
        x.tick(3);
        Check.same("before the end of the lease", x.read(0), 9);
        x.tick(1);
        Check.same("the lease", x.node(0, 12), 21);
        Check.refuses("at its end", Check.UNSUPPORTED, () -> x.read(0));
        Face y = Check.started(1, 0);
        y.tick(50);
        Check.same("alone", y.node(0, 12), 56);
        Check.same("alone", y.read(0), 0);
    }

    /** A leader whose log is full has no entry of its own term, though it has a lease. */
    private static void promise11OwnTerm() {
        Face x = new Real();
        x.tick(14);
        for (int i = 0; i < 23; i++) {
            x.submit(0, 1);
        }
        x.tick(30);
        x.crash(0);
        x.tick(30);
        int leader = x.leader();
        Check.same("no blank entry", x.node(leader, 5), 24);
        Check.holds("a lease", x.node(leader, 12) > x.statistic(0));
        Check.refuses("read", Check.UNSUPPORTED, () -> x.read(leader));
        x.pack(leader);
        x.pack(3 - leader);
        x.submit(leader, 0);
        x.tick(10);
        Check.same("committed", x.node(leader, 4), 25);
        Check.same("read", x.read(leader), x.node(leader, 8));
    }
}
