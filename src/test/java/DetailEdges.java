/** Boundaries of the description: its details. */
public final class DetailEdges {
    private DetailEdges() { }

    public static void main(String[] args) {
        keptTimer();
        committedSnapshot();
        committedFirstConfiguration();
        committedAfterAnother();
        successOfNoMember();
        failureOfNoMember();
        downAndUp();
        notesOfAFormerLeader();
        numbersOfNow();
        timerOfAWinner();
        winnerThatCommits();
        whatIsSaved();
        savedWinnersAndStatistics();
        lostBecauseOfForty();
        termOfASnapshot();
        configurationOfASnapshot();
        configurationOfASnapshotThatIsSent();
        entriesAfterASnapshot();
        Check.end("DetailEdges");
    }

    /** Node 0 leads in the term 1 and hears of the term 2 when its timer is 1, 2 or 3. */
    private static void keptTimer() {
        Check.sentence("A node that becomes a follower because of a greater term keeps its timer.");
        for (int wait = 1; wait <= 3; wait++) {
            Face x = new Real();
            Scenes.three(x);
            x.submit(0, 1);
            x.setLink(0, 2, true);
            x.setLink(1, 2, true);
            x.tick(wait);
            x.crash(2);
            x.restart(2);
            x.tick(7);
            x.setLink(0, 2, false);
            x.tick(1);
            int time = x.statistic(0);
            Check.holds("a request of the term 2", Check.find(x, 0, 2, 0, time + 1) >= 0);
            int timer = wait == 1 ? 1 : 5 - wait;
            Check.node("a leader", x, 0, 1, 2, 1, 0, 2, 2, 1, 0, 1, timer);
            x.tick(1);
            if (timer == 1) {
                Check.node("it stands at once", x, 0, 1, 1, 3, 0, 2, 2, 1, 0, 1, 12);
            } else {
                Check.node("one tick later", x, 0, 1, 0, 2, -1, 2, 2, 1, 0, 1, timer - 1);
            }
        }
    }

    private static final String SNAPSHOT =
            "A configuration that is that of the snapshot counts as that of a committed entry.";

    private static void committedSnapshot() {
        Check.sentence(SNAPSHOT);
        Face x = new Real();
        Scenes.three(x);
        x.reconfigure(0, 3);
        x.tick(3);
        Check.refuses("not committed", Check.STATE, () -> x.reconfigure(0, 7));
        x.tick(3);
        Check.log("committed", x, 0, "1:-! 1:J227! 1:C3!");
        x.pack(0);
        x.crash(1);
        x.crash(2);
        Check.same("that of the snapshot", x.reconfigure(0, 7), 4);
    }

    private static void committedFirstConfiguration() {
        Check.sentence(SNAPSHOT);
        Face x = new Real();
        x.tick(10);
        Check.same("nothing is committed", x.node(0, 4), 0);
        Check.same("that of the first snapshot", x.reconfigure(0, 3), 2);
        x.start(7, 0);
        x.tick(10);
        Check.same("that of the first snapshot after another start", x.reconfigure(0, 3), 2);
    }

    /** A joint configuration of node 0 is overwritten, and node 0 leads again. */
    private static void committedAfterAnother() {
        Check.sentence(SNAPSHOT);
        Face x = new Real();
        Scenes.three(x);
        x.setLink(0, 1, true);
        x.setLink(0, 2, true);
        Check.fill(x, 0, 3);
        x.reconfigure(0, 3);
        x.tick(12);
        x.setLink(0, 1, false);
        x.setLink(0, 2, false);
        x.tick(2);
        Check.log("overwritten", x, 0, "1:-! 2:-!");
        Check.same("not joint", x.node(0, 10), 0);
        x.crash(1);
        x.crash(2);
        x.crash(0);
        x.restart(0);
        Check.loseAll(x);
        x.tick(x.node(0, 9));
        x.restart(1);
        x.tick(2);
        Check.node("it leads again", x, 0, 1, 2, 3, 0, 0, 3, 3);
        Check.same("that of the first snapshot", x.reconfigure(0, 3), 4);
    }

    private static final String MEMBERS_OR_NOT =
            "Answers are handled in the same way whether their senders are members or not.";

    /** Node 2 is removed by the answer of node 1, and its own answer comes behind that. */
    private static void successOfNoMember() {
        Check.sentence(MEMBERS_OR_NOT);
        Face x = new Real();
        Scenes.three(x);
        x.reconfigure(0, 3);
        x.tick(2);
        Check.message("the first answer", x, 0, 3, 1, 0, 1, 17, 2, 1);
        Check.message("the other one", x, 1, 3, 2, 0, 1, 17, 2, 1);
        x.tick(1);
        Check.same("the new group", x.node(0, 11), 3);
        Check.same("the match", x.noted(0, 2, 1), 2);
        Check.same("the next index", x.noted(0, 2, 0), 3);
        Check.same("the echo", x.noted(0, 2, 2), 15);
    }

    /** Node 4 is removed by the answers of the nodes 1 and 3, and its failure comes behind them. */
    private static void failureOfNoMember() {
        Check.sentence(MEMBERS_OR_NOT);
        Face x = Check.started(31, 0);
        x.crash(4);
        x.tick(14);
        Check.fill(x, 0, 4);
        x.tick(6);
        x.crash(0);
        x.tick(x.node(2, 9) + 2);
        Check.node("the next leader", x, 2, 1, 2, 2, 2, 4, 5, 2);
        x.reconfigure(2, 15);
        x.restart(4);
        Check.loseAll(x);
        x.tick(3);
        Check.log("a node without entries", x, 4, "");
        int due = x.statistic(0) + 1;
        int failure = Check.find(x, 3, 4, 2, due);
        Check.message("its failure comes behind the others", x, failure, 3, 4, 2, 2, due, 0, 0);
        Check.holds("the others", failure > Math.max(Check.find(x, 3, 1, 2, due), Check.find(x, 3, 3, 2, due)));
        x.tick(1);
        Check.same("it is no member", x.node(2, 11), 15);
        Check.same("not joint", x.node(2, 10), 0);
        Check.same("the next index", x.noted(2, 4, 0), 1);
        Check.message("sent at once", x, Check.find(x, 2, 2, 4, due + 1), 2, 2, 4, 2, due + 1, 0, 4);
    }

    private static void downAndUp() {
        Check.sentence("A node that is down keeps its timer and its commit index");
        Face x = new Real();
        x.tick(14);
        x.submit(0, 3);
        x.tick(5);
        x.pack(1);
        int[] timers = {x.node(0, 9), x.node(1, 9), x.node(2, 9)};
        for (int n = 0; n < 3; n++) {
            x.crash(n);
        }
        x.tick(20);
        for (int n = 0; n < 3; n++) {
            Check.node("down", x, n, 0, 0, 1, 0, 2, 2, 1, n == 1 ? 2 : 0, 3, timers[n]);
        }
        x.restart(0);
        Check.node("up", x, 0, 1, 0, 1, 0, 0, 2, 1, 0, 0, 9);
        x.restart(1);
        Check.node("up with a snapshot", x, 1, 1, 0, 1, 0, 2, 2, 1, 2, 3, 12);
    }

    private static void notesOfAFormerLeader() {
        Check.sentence("what a leader noted is gone when it is a leader no more");
        Face x = Check.started(3, 0);
        x.tick(14);
        Check.same("the match", x.noted(0, 1, 1), 1);
        x.crash(0);
        Check.refuses("down", Check.STATE, () -> x.noted(0, 1, 1));
        x.restart(0);
        Check.refuses("up", Check.STATE, () -> x.noted(0, 1, 1));
        x.tick(x.node(0, 9));
        Check.refuses("a candidate", Check.STATE, () -> x.noted(0, 1, 1));
        x.tick(2);
        Check.same("the match begins anew", x.noted(0, 1, 1), 0);
        Check.same("the next index, too", x.noted(0, 1, 0), 2);
        Check.same("the echo, too", x.noted(0, 1, 2), -1);
        Check.same("no lease", x.node(0, 12), -1);
    }

    private static void numbersOfNow() {
        Check.sentence("The numbers of messages are those among the messages that there are now.");
        Face x = Check.started(31, 0);
        x.setDelay(5);
        x.tick(8);
        x.lose(1);
        int[] receivers = {1, 3, 4};
        for (int i = 0; i < 3; i++) {
            Check.same("the receiver of " + i, x.message(i, 2), receivers[i]);
        }
        Check.refuses("number 3", Check.INDEX, () -> x.message(3, 0));
        x.setDelay(1);
        x.tick(2);
        Check.same("another one stands", x.message(3, 1), 3);
        x.tick(1);
        Check.same("those that were received are gone", x.message(0, 2), 1);
        Check.same("and replies come behind", x.message(3, 0), 1);
    }

    private static void timerOfAWinner() {
        Check.sentence("The node becomes a leader; its timer becomes 3.");
        Face x = new Real();
        Scenes.alone(x);
        Check.node("by its timer", x, 0, 1, 2, 1, 0, 1, 1, 1, 0, 0, 3);
        Check.sentence("A node that wins by a message in a tick has its timer decreased in the same tick.");
        Face y = new Real();
        y.tick(10);
        Check.node("by a message", y, 0, 1, 2, 1, 0, 0, 1, 1, 0, 0, 2);
    }

    /**
     * The nodes 1 and 2 know that the change to 1, 2, 3 is committed, and not of the new group, as
     * node 0 crashes. The next leader appends it as it wins, and sends both entries to the new group.
     */
    private static void winnerThatCommits() {
        Check.sentence("A node that wins commits before it sends.");
        Face x = new Real();
        Scenes.three(x);
        Check.fill(x, 0, 22);
        x.tick(26);
        x.pack(1);
        x.reconfigure(0, 14);
        x.submit(0, 24);
        x.tick(9);
        Check.node("joint", x, 0, 1, 2, 1, 0, 24, 24);
        Check.same("and without room", x.node(0, 10), 7);
        Check.node("it knows", x, 1, 1, 0, 1, 0, 24, 24, 1, 22);
        x.crash(0);
        x.crash(2);
        Check.loseAll(x);
        x.tick(x.node(1, 9));
        x.restart(2);
        x.tick(2);
        Check.node("it has won", x, 1, 1, 2, 2, 1, 24, 26, 2, 22);
        int due = x.statistic(0) + 1;
        Check.same("to the new group alone", Check.find(x, 2, 1, 0, due), -1);
        Check.message("both entries", x, Check.find(x, 2, 1, 2, due), 2, 1, 2, 2, due, 24, 2);
        Check.message("both entries", x, Check.find(x, 2, 1, 3, due), 2, 1, 3, 2, due, 24, 2);
    }

    private static void whatIsSaved() {
        Check.sentence("What is saved contains delay, links, messages, statistics and winners, but not the"
                + " input buffer and the text.");
        Looks.Run before = x -> {
            x.start(31, 5);
            x.tick(20);
            x.submit(x.leader(), 3);
            x.setDelay(4);
            x.setLink(1, 3, true);
            x.setLink(2, 0, true);
            x.tick(4);
            x.lose(0);
            x.save();
        };
        Looks.Run other = x -> {
            x.start(3, 1);
            x.setDelay(2);
            x.setLink(0, 4, true);
            x.tick(50);
            x.crash(1);
        };
        Check.alike("restored", x -> {
            before.on(x);
            other.on(x);
            x.restore();
        }, before);
        Check.alike("with the buffer and the text of then", x -> {
            before.on(x);
            x.feed('t');
            x.write(0);
            other.on(x);
            x.feed('i');
            x.write(1);
            x.restore();
        }, x -> {
            x.feed('t');
            x.feed('i');
            other.on(x);
            x.write(1);
            before.on(x);
        });
    }

    private static void savedWinnersAndStatistics() {
        Check.sentence("What is saved contains delay, links, messages, statistics and winners");
        Face x = Check.started(1, 0);
        x.tick(8);
        x.save();
        x.crash(0);
        x.restart(0);
        x.tick(20);
        Check.same("won twice", x.statistic(4), 2);
        Check.same("the winner", x.winner(2), 0);
        x.restore();
        Check.same("won once", x.statistic(4), 1);
        Check.same("stood once", x.statistic(3), 1);
        Check.same("the winner", x.winner(1), 0);
        Check.refuses("no second one", Check.NO_ELEMENT, () -> x.winner(2));
    }

    private static void lostBecauseOfForty() {
        Check.sentence("A message that is lost because there are 40 counts as sent, too.");
        Face x = new Real();
        Scenes.crowd(x);
        int sent = x.statistic(1);
        int lost = x.statistic(2);
        x.tick(1);
        Check.same("sent", x.statistic(1) - sent, 16);
        Check.same("lost", x.statistic(2) - lost, 4);
    }

    private static void termOfASnapshot() {
        Check.sentence("The term of a new snapshot is that of the entry at the commit index, or of the"
                + " earlier snapshot if no entry is removed.");
        Face x = new Real();
        Scenes.alone(x);
        x.crash(0);
        x.restart(0);
        x.tick(9);
        x.submit(0, 5);
        Check.log("two terms", x, 0, "1:-! 2:-! 2:5!");
        Check.same("pack", x.pack(0), 3);
        Check.same("that of the last one", x.node(0, 6), 2);
        Check.same("pack again", x.pack(0), 0);
        Check.same("that of the earlier one", x.node(0, 6), 2);
        Face y = new Real();
        Check.same("nothing", y.pack(0), 0);
        Check.same("that of the first one", y.node(0, 6), 0);
        Face z = Scenes.twoLeaders(2, 2);
        Check.same("pack", z.pack(0), 1);
        Check.same("the entries after it stay", z.node(0, 5), 3);
        z.setLink(0, 2, false);
        z.tick(2);
        Check.log("one of another term", z, 0, "[1] 2:-!");
        Check.same("the term of the snapshot of a leader", z.pack(2) + z.node(2, 6), 4);
    }

    private static void configurationOfASnapshot() {
        Check.sentence("The configuration of the snapshot is that of the last entry of kind 1 or 2 among"
                + " these, or that of the snapshot before.");
        Face x = new Real();
        Scenes.three(x);
        x.submit(0, 2);
        x.tick(3);
        Check.same("pack without one", x.pack(0), 2);
        Check.same("that of the snapshot before", x.node(0, 11), 7);
        x.reconfigure(0, 3);
        x.tick(3);
        Check.log("joint and then not", x, 0, "[2] 1:J227! 1:C3");
        Check.same("pack the joint one", x.pack(0), 1);
        Check.log("not the other one", x, 0, "[3] 1:C3");
        x.crash(0);
        x.restart(0);
        Check.same("that of the last entry", x.node(0, 10), 0);
        Face z = new Real();
        Scenes.three(z);
        z.reconfigure(0, 3);
        z.tick(3);
        Check.same("pack the joint one", z.pack(0), 2);
        z.tick(3);
        Check.same("pack the other one alone", z.pack(0), 1);
        Check.log("none is left", z, 0, "[3]");
        Check.same("the only group", z.node(0, 11), 3);
        Check.same("and no old one", z.node(0, 10), 0);
        Face y = new Real();
        Scenes.three(y);
        y.reconfigure(0, 3);
        y.tick(6);
        Check.log("both", y, 0, "1:-! 1:J227! 1:C3!");
        Check.same("pack both", y.pack(0), 3);
        Check.same("the last one", y.node(0, 11), 3);
        Check.same("not joint", y.node(0, 10), 0);
        y.submit(0, 1);
        y.tick(3);
        Check.same("pack without one", y.pack(0), 1);
        Check.same("that of the snapshot before", y.node(0, 11), 3);
    }

    /** The leader has the joint configuration in its snapshot, and the new group behind it. */
    private static void configurationOfASnapshotThatIsSent() {
        Check.sentence("The configuration of the snapshot is that of the last entry of kind 1 or 2 among"
                + " these, or that of the snapshot before.");
        Looks.Run before = x -> {
            Scenes.three(x);
            x.reconfigure(0, 15);
            x.crash(3);
            x.tick(3);
            Check.same("pack", x.pack(0), 2);
            x.restart(3);
            x.tick(1);
        };
        Face x = new Real();
        before.on(x);
        Check.log("the leader", x, 0, "[2] 1:C15");
        Check.message("the snapshot", x, 2, 4, 0, 3, 1, 19, 2, 1);
        x.tick(1);
        Check.node("joint", x, 3, 1, 0, 1, -1, 2, 2, 1, 2, 0, 10, 7, 15, -1, 0);
        x.tick(3);
        Check.node("and then not", x, 3, 1, 0, 1, -1, 3, 3, 1, 2, 0, 10, 0, 15, -1, 0);
        Face y = new Real();
        before.on(y);
        y.tick(1);
        Looks.Run installed = z -> {
            before.on(z);
            z.tick(1);
            z.save();
        };
        Check.sentence("What is saved contains delay, links, messages, statistics and winners");
        Looks.Run sent = z -> {
            before.on(z);
            z.save();
        };
        Check.alike("restored before", z -> {
            sent.on(z);
            z.start(31, 9);
            z.tick(30);
            z.restore();
        }, sent);
        Check.alike("restored", z -> {
            installed.on(z);
            z.start(31, 9);
            z.tick(30);
            z.restore();
        }, installed);
        Check.sentence("their configuration consists of one group, the members");
        y.start(6, 0);
        Check.node("no old group", y, 3, 1, 0, 0, -1, 0, 0, 0, 0, 0, 10, 0, 6, -1, 0);
    }

    /** The entries that stay keep their terms, kinds and values. */
    private static void entriesAfterASnapshot() {
        Check.sentence("its entries up to there are removed from its log");
        Face x = new Real();
        Scenes.three(x);
        x.submit(0, -4);
        x.tick(2);
        x.crash(0);
        Check.loseAll(x);
        x.tick(x.node(2, 9) + 2);
        x.submit(2, 8);
        x.reconfigure(2, 6);
        Check.log("before", x, 2, "1:-! 1:-4 2:- 2:8 2:J230");
        Check.same("pack", x.pack(2), 1);
        Check.log("after", x, 2, "[1] 1:-4 2:- 2:8 2:J230");
        Check.same("the last term", x.node(2, 6), 2);
        x.tick(4);
        Check.log("committed", x, 2, "[1] 1:-4! 2:-! 2:8! 2:J230! 2:C6");
        Check.same("its result", x.node(2, 8), 31 * -4 + 8);
    }
}
