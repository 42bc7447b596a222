/** Boundaries of the description: committing, changes of members, leases. */
public final class CommitEdges {
    private static final String OWN_TERM =
            "The commit index of a leader becomes the greatest index above it of an entry with its own"
            + " term, for which the leader and all nodes with a match that is not less are a quorum"
            + " together, if there is one.";
    private static final String NEW_GROUP =
            "If its configuration is joint and the entry of this configuration is committed then, the"
            + " leader appends the configuration of the new group, if its log has fewer than 24"
            + " entries.";
    private static final String LEAVING =
            "If its configuration is not joint, it is no member of it, and its entry is committed, the"
            + " leader becomes a follower and resets its timer.";
    private static final String LEASE =
            "Its lease is 6 plus the greatest time T for which the nodes with an echo that is at least"
            + " T, including itself, are a quorum; -1 if there is none with a T of at least 0.";
    private static final String CAN_READ =
            "A leader can answer a read if the time is less than its lease and the entry or snapshot at"
            + " its commit index has its own term.";

    private CommitEdges() { }

    public static void main(String[] args) {
        ownTerm();
        ownTermInAFullLog();
        greatestIndex();
        newGroup();
        newGroupLater();
        newGroupIsNotCommittedAtOnce();
        newGroupByALeaderAlone();
        newGroupByNoFailure();
        newGroupByASuccess();
        leaving();
        stayingUntilCommitted();
        stayingWhileJoint();
        afterAppending();
        leaseOfNone();
        leaseOfTheGreatestTime();
        leaseByEachNode();
        leaseAlone();
        leaseOfAJointGroup();
        readBeforeTheEnd();
        readInTheOwnTerm();
        readOfASnapshot();
        Check.end("CommitEdges");
    }

    /** Entries of the term 1 are committed only together with one of the term of the new leader. */
    private static void ownTerm() {
        Check.sentence(OWN_TERM);
        Face x = new Real();
        Scenes.three(x);
        Check.fill(x, 0, 4);
        x.tick(2);
        x.crash(0);
        Check.loseAll(x);
        x.tick(x.node(2, 9) + 2);
        Check.node("it leads with the entries of the term 1", x, 2, 1, 2, 2, 2, 1, 5, 2);
        x.tick(1);
        Check.message("node 1 has the blank entry", x, 0, 3, 1, 2, 2, x.statistic(0) + 1, 5, 1);
        x.tick(1);
        Check.same("all are committed", x.node(2, 4), 5);
    }

    private static void ownTermInAFullLog() {
        Check.sentence(OWN_TERM);
        Face x = new Real();
        Scenes.three(x);
        Scenes.fill(x, 0, 2);
        x.tick(18);
        Check.same("the last index of the next leader", x.node(2, 5), 24);
        x.crash(0);
        Check.loseAll(x);
        int commit = x.node(2, 4);
        Check.holds("not all are committed", commit < 24);
        x.tick(x.node(2, 9) + 10);
        Check.node("it leads without an entry of its term", x, 2, 1, 2, 2, 2, commit, 24, 1);
        Check.same("though node 1 has all", x.noted(2, 1, 1), 24);
        Check.same("pack", x.pack(2), commit);
        x.pack(1);
        x.submit(2, 9);
        x.tick(5);
        Check.node("with one of its term all are committed", x, 2, 1, 2, 2, 2, 25, 25, 2);
    }

    private static void greatestIndex() {
        Check.sentence(OWN_TERM);
        Face x = new Real();
        Scenes.three(x);
        x.crash(2);
        Check.fill(x, 0, 10);
        x.tick(3);
        Check.same("the greatest that node 1 has", x.node(0, 4), 5);
        x.tick(3);
        Check.same("the greatest that node 1 has", x.node(0, 4), 9);
        x.tick(3);
        Check.same("the last", x.node(0, 4), 10);
    }

    private static void newGroup() {
        Check.sentence(NEW_GROUP);
        for (int size = 22; size <= 23; size++) {
            Face x = new Real();
            Scenes.alone(x);
            Check.fill(x, 0, size);
            Check.same("reconfigure", x.reconfigure(0, 1), size + 1);
            Check.same("the last index", x.node(0, 5), 24);
            Check.same("joint if there is no room", x.node(0, 10), size == 23 ? 1 : 0);
            Check.same("the commit index", x.node(0, 4), size + 1);
        }
    }

    /** The configuration that had no room is appended when the leader commits again. */
    private static void newGroupLater() {
        Check.sentence(NEW_GROUP);
        Face x = new Real();
        Scenes.alone(x);
        Check.fill(x, 0, 23);
        x.reconfigure(0, 1);
        x.tick(5);
        Check.same("not by time", x.node(0, 10), 1);
        x.pack(0);
        Check.same("not by a snapshot", x.node(0, 10), 1);
        Check.same("by an entry", x.submit(0, 7), 25);
        Check.log("both", x, 0, "[24] 1:7! 1:C1");
        Check.sentence("A configuration that is that of the snapshot counts as that of a committed entry.");
        Check.same("not joint", x.node(0, 10), 0);
    }

    private static void newGroupIsNotCommittedAtOnce() {
        Check.sentence("this is not done again for the entry of a new group that it appends while it"
                + " commits");
        Face x = new Real();
        Scenes.alone(x);
        x.reconfigure(0, 1);
        Check.log("not committed", x, 0, "1:-! 1:J33! 1:C1");
        x.tick(10);
        Check.log("not by time", x, 0, "1:-! 1:J33! 1:C1");
        x.submit(0, 2);
        Check.log("with the next one", x, 0, "1:-! 1:J33! 1:C1! 1:2!");
    }

    /** Node 0 leads the change from 0, 1, 2 to 1, 2, both of which are needed then. */
    private static void leaving() {
        Check.sentence(LEAVING);
        Face x = new Real();
        Scenes.three(x);
        x.reconfigure(0, 6);
        x.tick(3);
        Check.log("the new group", x, 0, "1:-! 1:J230! 1:C6");
        Check.same("it leads", x.node(0, 1), 2);
        x.tick(2);
        Check.same("it leads until it is committed", x.node(0, 1), 2);
        x.tick(1);
        Check.log("committed", x, 0, "1:-! 1:J230! 1:C6!");
        Check.node("it follows, with its timer reset", x, 0, 1, 0, 1, 0, 3, 3, 1, 0, 0, 9);
        x.tick(20);
        Check.node("its timer does not run", x, 0, 1, 0, 1, 0, 3, 3, 1, 0, 0, 9);
        Check.same("another one leads", x.leader(), 2);
    }

    private static void stayingUntilCommitted() {
        Check.sentence("A leader that is no member of its configuration does not count in any group.");
        Face x = new Real();
        Scenes.three(x);
        x.reconfigure(0, 6);
        x.tick(3);
        x.crash(2);
        x.tick(9);
        Check.node("it and one of two are no quorum", x, 0, 1, 2, 1, 0, 2, 3);
        Check.same("though one has it", x.noted(0, 1, 1), 3);
        Check.same("the lease is that of the other one", x.node(0, 12), x.noted(0, 2, 2) + 6);
        x.restart(2);
        x.tick(6);
        Check.node("both are one", x, 0, 1, 0, 1, 0, 3, 3);
    }

    private static void stayingWhileJoint() {
        Check.sentence(LEAVING);
        Face x = new Real();
        Scenes.three(x);
        Check.fill(x, 0, 23);
        x.reconfigure(0, 6);
        x.tick(26);
        Check.node("joint and committed, and there is no room", x, 0, 1, 2, 1, 0, 24, 24);
        Check.same("joint", x.node(0, 10), 7);
        Check.refuses("no change", Check.STATE, () -> x.reconfigure(0, 7));
    }

    /** All know that the joint configuration is committed, and node 1 has room for the new group. */
    private static Face withJointSnapshot() {
        Face x = new Real();
        Scenes.three(x);
        x.crash(3);
        Check.fill(x, 0, 23);
        x.reconfigure(0, 14);
        x.tick(30);
        Check.node("committed", x, 1, 1, 0, 1, 0, 24, 24);
        return x;
    }

    /** Only a leader appends the configuration of the new group, whatever another node receives. */
    private static void newGroupByALeaderAlone() {
        Check.sentence(NEW_GROUP);
        Face x = withJointSnapshot();
        Check.same("pack", x.pack(1), 24);
        x.tick(9);
        Check.node("a follower does not", x, 1, 1, 0, 1, 0, 24, 24, 1, 24);
        x.crash(1);
        x.tick(6);
        Check.node("nor a node that is down", x, 1, 0, 0, 1, 0, 24, 24, 1, 24);
        x.restart(1);
        for (int n = 1; n <= 3; n++) {
            x.setLink(0, n, true);
        }
        Check.loseAll(x);
        x.tick(x.node(2, 9) + 1);
        Check.node("nor one that is asked for its vote", x, 1, 1, 0, 2, 2, 24, 24, 1, 24);
        x.crash(2);
        x.restart(3);
        Check.loseAll(x);
        x.tick(x.node(1, 9));
        Check.node("nor a candidate", x, 1, 1, 1, 3, 1, 24, 24, 1, 24);
        x.tick(2);
        Check.same("one vote is no quorum", x.node(1, 13), 10);
        Check.node("nor with it", x, 1, 1, 1, 3, 1, 24, 24, 1, 24);
        x.tick(x.node(1, 9) + 1);
        x.crash(1);
        x.restart(1);
        x.tick(1);
        Check.node("nor with a vote that comes too late", x, 1, 1, 0, 4, 1, 24, 24, 1, 24);
        x.setLink(0, 1, false);
        Check.node("an earlier leader", x, 0, 1, 2, 1, 0, 24, 24);
        x.tick(x.node(0, 9) + 1);
        Check.same("is told so", x.message(0, 0), 3);
        Check.node("nor by an earlier leader", x, 1, 1, 0, 4, 1, 24, 24, 1, 24);
    }

    /** A follower with the joint configuration in its snapshot is sent what is too far behind it. */
    private static void newGroupByNoFailure() {
        Check.sentence(NEW_GROUP);
        Face x = withJointSnapshot();
        Check.same("pack", x.pack(1), 24);
        x.crash(0);
        Check.loseAll(x);
        x.tick(x.node(2, 9) + 2);
        Check.same("pack", x.pack(2), 24);
        x.crash(1);
        x.restart(3);
        x.tick(6);
        Check.log("the leader", x, 2, "[24] 2:C14");
        x.submit(2, 9);
        x.crash(2);
        x.restart(2);
        x.crash(3);
        Check.loseAll(x);
        x.tick(x.node(2, 9));
        x.restart(1);
        x.tick(2);
        Check.node("it leads again", x, 2, 1, 2, 3, 2, 24, 27, 3);
        x.tick(1);
        int time = x.statistic(0);
        Check.message("a failure", x, Check.find(x, 3, 1, 2, time + 1), 3, 1, 2, 3, time + 1, 24, 0);
        Check.node("it appends nothing", x, 1, 1, 0, 3, 2, 24, 24, 1, 24);
    }

    /** The leader gets room for the new group, and hears of a failure before it hears of a success. */
    private static void newGroupByASuccess() {
        Check.sentence(NEW_GROUP);
        Face x = withJointSnapshot();
        x.crash(0);
        Check.loseAll(x);
        x.tick(x.node(2, 9) + 2);
        Check.node("it leads and has no room", x, 2, 1, 2, 2, 2, 24, 24, 1, 0);
        Check.same("pack", x.pack(2), 24);
        x.lose(Check.find(x, 2, 2, 1, x.statistic(0) + 1));
        x.restart(3);
        x.tick(2);
        Check.same("the failure has come", x.noted(2, 3, 0), 1);
        Check.node("nothing is appended", x, 2, 1, 2, 2, 2, 24, 24, 1, 24);
        x.tick(2);
        Check.log("with a success it is", x, 2, "[24] 2:C14");
    }

    private static void afterAppending() {
        Check.sentence("A leader also commits after it has appended an entry, by winning, by submitting or"
                + " otherwise");
        Face x = Check.started(1, 0);
        x.tick(8);
        Check.same("by winning", x.node(0, 4), 1);
        x.submit(0, 5);
        Check.same("by submitting", x.node(0, 4), 2);
        x.reconfigure(0, 1);
        Check.same("by a change of members", x.node(0, 4), 3);
    }

    private static void leaseOfNone() {
        Check.sentence(LEASE);
        Face x = new Real();
        x.tick(9);
        Check.same("no leader", x.node(0, 12), -1);
        x.tick(1);
        Check.same("no echo", x.node(0, 12), -1);
        x.tick(1);
        Check.same("no echo yet", x.node(0, 12), -1);
        x.tick(1);
        Check.same("two echoes of 10", x.node(0, 12), 16);
        x.crash(0);
        Check.same("down", x.node(0, 12), -1);
        Face y = Check.started(31, 0);
        y.tick(10);
        y.lose(3);
        y.lose(2);
        y.lose(1);
        y.tick(2);
        Check.same("one echo", y.noted(0, 1, 2), 10);
        Check.same("two of five are none", y.node(0, 12), -1);
    }

    /** The echo of node 1 is 15, that of node 2 is 12, and those of others do not count. */
    private static void leaseOfTheGreatestTime() {
        Check.sentence(LEASE);
        Face x = new Real();
        Scenes.three(x);
        x.crash(2);
        x.tick(3);
        Check.same("one echo", x.noted(0, 1, 2), 15);
        Check.same("the other one", x.noted(0, 2, 2), 12);
        Check.same("two of three by the greater one", x.node(0, 12), 21);
        Face y = Check.started(31, 0);
        y.tick(14);
        y.crash(3);
        y.crash(4);
        y.tick(3);
        y.crash(2);
        y.tick(3);
        Check.same("the greatest echo", y.noted(0, 1, 2), 18);
        Check.same("the next one", y.noted(0, 2, 2), 15);
        Check.same("the least one", y.noted(0, 3, 2), 12);
        Check.same("three of five by the next one", y.node(0, 12), 21);
    }

    /** Each of two others in turn is the one that is heard of. */
    private static void leaseByEachNode() {
        Check.sentence(LEASE);
        for (int leader = 0; leader < 5; leader++) {
            for (int other = 0; other < 5; other++) {
                if (other == leader) {
                    continue;
                }
                Face x = Check.started(1 << leader | 1 << other, 0);
                x.crash(other);
                x.tick(x.node(leader, 9));
                x.restart(other);
                x.tick(2);
                int time = x.statistic(0);
                Check.same("no echo", x.node(leader, 12), -1);
                x.tick(2);
                Check.same("an echo", x.noted(leader, other, 2), time);
                Check.same("the lease of " + leader + " by " + other, x.node(leader, 12), time + 6);
                Check.same("read", x.read(leader), 0);
            }
        }
    }

    private static void leaseAlone() {
        Check.sentence("The echo of a leader to itself is the time.");
        Face x = new Real();
        Scenes.alone(x);
        for (int time = 8; time < 20; time++) {
            Check.same("alone", x.node(0, 12), time + 6);
            x.tick(1);
        }
        Face y = Check.started(3, 0);
        y.tick(14);
        y.reconfigure(0, 2);
        y.crash(1);
        Check.same("with another one", y.node(0, 12), 18);
        y.tick(5);
        Check.same("its own does not help", y.node(0, 12), 18);
    }

    private static void leaseOfAJointGroup() {
        Check.sentence(LEASE);
        Face x = new Real();
        Scenes.three(x);
        x.reconfigure(0, 24);
        Check.same("the new group has no echo", x.node(0, 12), -1);
        x.crash(4);
        x.tick(3);
        Check.same("one of two has none", x.node(0, 12), -1);
        Check.same("though the other one has", x.noted(0, 3, 2), 15);
        x.crash(3);
        x.restart(4);
        x.tick(3);
        Check.same("the lesser of both", x.node(0, 12), 21);
    }

    private static void readBeforeTheEnd() {
        Check.sentence(CAN_READ);
        Face x = new Real();
        Scenes.three(x);
        x.submit(0, 9);
        x.tick(3);
        x.crash(1);
        x.crash(2);
        for (int time = 17; time < 21; time++) {
            Check.same("the lease", x.node(0, 12), 21);
            Check.same("read at " + time, x.read(0), 9);
            x.tick(1);
        }
        Check.same("the time is its lease", x.statistic(0), x.node(0, 12));
        Check.refuses("read at 21", Check.UNSUPPORTED, () -> x.read(0));
        x.tick(1);
        Check.refuses("read at 22", Check.UNSUPPORTED, () -> x.read(0));
    }

    private static void readInTheOwnTerm() {
        Check.sentence(CAN_READ);
        Face x = new Real();
        Scenes.three(x);
        Check.fill(x, 0, 24);
        x.tick(24);
        x.crash(0);
        x.tick(x.node(2, 9) + 6);
        Check.holds("a lease", x.node(2, 12) > x.statistic(0));
        Check.node("committed in the term 1", x, 2, 1, 2, 2, 2, 24, 24, 1);
        Check.refuses("an entry of another term", Check.UNSUPPORTED, () -> x.read(2));
        x.pack(1);
        x.pack(2);
        Check.refuses("a snapshot of another term", Check.UNSUPPORTED, () -> x.read(2));
        x.submit(2, 3);
        x.tick(5);
        Check.same("an entry of its term", x.read(2), x.node(2, 8));
        x.pack(2);
        Check.same("a snapshot of its term", x.read(2), x.node(2, 8));
    }

    /** After a restart, the commit index is that of the snapshot, and there is room for no entry. */
    private static void readOfASnapshot() {
        Check.sentence(CAN_READ);
        Face x = new Real();
        Scenes.alone(x);
        Check.fill(x, 0, 24);
        x.crash(0);
        x.restart(0);
        x.tick(9);
        Check.node("nothing is committed", x, 0, 1, 2, 2, 0, 0, 24, 1);
        Check.refuses("no entry at all", Check.UNSUPPORTED, () -> x.read(0));
    }
}
