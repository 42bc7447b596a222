/** Boundaries of the description: sending to a member, appends, snapshot messages, answers. */
public final class ReplicationEdges {
    private static final String REFUSED =
            "If the previous index is greater than its last index, or it is greater than the index of"
            + " its snapshot and its entry there has another term, it answers failure with the lesser"
            + " one of its last index and the previous index minus 1.";
    private static final String REMOVED =
            "if its log has an entry there with another term, this and all later ones are removed; if"
            + " it has none there, the entry is appended, unless the log has 24 entries already, in"
            + " which case this entry and the later ones of the message are ignored.";
    private static final String SUCCESS =
            "for success, the match of the sender becomes the index of the answer if that is greater,"
            + " the next index becomes the match plus 1, and the echo becomes the time told if that is"
            + " greater; then the leader commits.";

    private ReplicationEdges() { }

    public static void main(String[] args) {
        nextOrSnapshot();
        entriesOfAnAppend();
        appendOfAnEarlierTerm();
        previousBeyondTheLast();
        previousOfAnotherTerm();
        sameTerm();
        beforeTheSnapshot();
        atTheSnapshot();
        otherTerm();
        fullFollower();
        fullFollowerWithOtherTerms();
        commitOfAnAppend();
        lateAppend();
        appendToACandidate();
        snapshotThatIsNew();
        snapshotThatIsKnown();
        snapshotThatIsLate();
        snapshotBeforeEntries(false);
        snapshotBeforeEntries(true);
        snapshotOfItsOwnTerm();
        snapshotOfAnEarlierLeader();
        termOfThePrevious();
        sameTermBehindAnother();
        snapshotBehindASnapshot();
        orderOfSending();
        snapshotOfAnotherTerm();
        snapshotOfAnEarlierTerm();
        success();
        failure();
        failureAgain();
        answersOfAnEarlierTerm();
        answersToAFollower();
        Check.end("ReplicationEdges");
    }

    /** Node 2 has one entry, and the leader a snapshot of none to three. */
    private static void nextOrSnapshot() {
        Check.sentence("If the next index of the member is not greater than the index of the snapshot of"
                + " the leader, a snapshot message (kind 4) with its snapshot is sent.");
        for (int packed = 0; packed <= 3; packed++) {
            Face x = new Real();
            Scenes.three(x);
            x.crash(2);
            if (packed > 0) {
                Check.fill(x, 0, packed);
                x.tick(3);
                Check.same("pack", x.pack(0), packed);
                x.tick(1);
            } else {
                x.tick(4);
            }
            Check.same("the next index", x.noted(0, 2, 0), 2);
            Check.same("the snapshot", x.node(0, 7), packed);
            int due = x.statistic(0) + 1;
            if (packed < 2) {
                Check.message("an append", x, 1, 2, 0, 2, 1, due, 1, 0);
            } else {
                Check.message("a snapshot", x, 1, 4, 0, 2, 1, due, packed, 1);
            }
        }
    }

    private static void entriesOfAnAppend() {
        Check.sentence("Otherwise an append message (kind 2) is sent with the previous index, which is the"
                + " next index minus 1, the term of the entry or snapshot there, the entries from the"
                + " next index on, at most 4, and the commit index.");
        for (int values = 0; values <= 6; values++) {
            Face x = new Real();
            Scenes.three(x);
            Check.fill(x, 0, 1 + values);
            x.tick(1);
            Check.message("with " + values, x, 0, 2, 0, 1, 1, 16, 1, Math.min(4, values));
            Check.message("with " + values, x, 1, 2, 0, 2, 1, 16, 1, Math.min(4, values));
            x.tick(1);
            Check.same("received", x.node(1, 5), 1 + Math.min(4, values));
        }
        Face x = new Real();
        Scenes.three(x);
        x.pack(0);
        Check.fill(x, 0, 6);
        x.tick(2);
        Check.log("behind the snapshot", x, 1, "1:-! 1:2 1:3 1:4 1:5");
        x.tick(2);
        Check.message("the rest", x, 0, 2, 0, 1, 1, 19, 5, 1);
    }

    /** Node 0 leads in the term 1 while node 2 leads in the term 2; it sends at 27. */
    private static void appendOfAnEarlierTerm() {
        Check.sentence("if the term is less than that of the receiver, it sends an answer (kind 3) that"
                + " tells failure with the index 0");
        Face x = Scenes.twoLeaders(2, 2);
        x.setLink(0, 1, false);
        x.tick(1);
        Check.message("of the earlier term", x, 0, 2, 0, 1, 1, 28, 1, 2);
        Check.message("of the later one", x, 1, 2, 2, 1, 2, 28, 2, 0);
        x.lose(1);
        int timer = x.node(1, 9);
        x.tick(1);
        Check.message("failure with 0", x, 0, 3, 1, 0, 2, 29, 0, 0);
        Check.log("nothing was taken", x, 1, "1:-! 2:-!");
        Check.same("its timer goes on", x.node(1, 9), timer - 1);
        x.tick(1);
        Check.node("it follows then", x, 0, 1, 0, 2, -1);
    }

    /** The new leader begins with the previous index 1 + values; node 2 has one entry. */
    private static void previousBeyondTheLast() {
        Check.sentence(REFUSED);
        for (int values = 0; values <= 3; values++) {
            Face x = new Real();
            Scenes.three(x);
            x.crash(2);
            Check.fill(x, 0, 1 + values);
            x.tick(4);
            x.crash(0);
            Check.loseAll(x);
            x.tick(x.node(1, 9));
            x.restart(2);
            x.tick(2);
            Check.message("with " + values, x, 1, 2, 1, 2, 2, x.statistic(0) + 1, 1 + values, 1);
            x.tick(1);
            boolean fits = values == 0;
            Check.message("answered", x, 0, 3, 2, 1, 2, x.statistic(0) + 1, fits ? 2 : 1, fits ? 1 : 0);
            Check.log("after it", x, 2, fits ? "1:-! 2:-" : "1:-");
        }
    }

    /** Node 0 has some entries of the term 1 where the leader has the last of the term 2 at 4. */
    private static void previousOfAnotherTerm() {
        Check.sentence(REFUSED);
        for (int values = 1; values <= 5; values++) {
            Face x = Scenes.twoLeaders(values, 4);
            x.crash(0);
            x.crash(2);
            Check.loseAll(x);
            x.tick(x.node(1, 9));
            x.restart(2);
            x.tick(2);
            Check.node("the next leader", x, 1, 1, 2, 3, 1, 2, 5, 3);
            x.restart(0);
            x.setLink(0, 1, false);
            x.tick(2);
            Check.message("with " + values, x, 0, 2, 1, 0, 3, x.statistic(0) + 1, 4, 1);
            x.tick(1);
            int index = Math.min(1 + values, 3);
            Check.message("failure", x, 0, 3, 0, 1, 3, x.statistic(0) + 1, index, 0);
            Check.same("nothing is removed", x.node(0, 5), 1 + values);
            x.tick(1);
            Check.same("the next index", x.noted(1, 0, 0), index + 1);
            Check.message("sent at once", x, 0, 2, 1, 0, 3, x.statistic(0) + 1, index, 5 - index);
        }
    }

    /** An append with the entries 2 and 3 takes five ticks, and one with 2 to 5 overtakes it. */
    private static Face overtaken() {
        Face x = Check.started(3, 0);
        x.tick(14);
        x.setDelay(5);
        Check.fill(x, 0, 3);
        x.tick(1);
        Check.message("the slow one", x, 0, 2, 0, 1, 1, 20, 1, 2);
        Check.fill(x, 0, 5);
        x.setDelay(1);
        x.tick(3);
        Check.message("the fast one", x, 1, 2, 0, 1, 1, 19, 1, 4);
        x.tick(1);
        Check.same("all are taken", x.node(1, 5), 5);
        return x;
    }

    private static void sameTerm() {
        Check.sentence(REMOVED);
        Face x = overtaken();
        x.tick(1);
        Check.log("entries of the same term stay, and those behind them", x, 1, "1:-! 1:2 1:3 1:4 1:5");
        Check.same("none is removed", x.statistic(5), 0);
        Check.sentence("Let the end be the previous index plus the number of entries that were not"
                + " ignored.");
        Check.message("the end is that of the message", x, 0, 3, 1, 0, 1, 21, 3, 1);
    }

    /** A slow append with the entries 2 and 3 arrives when they are in a snapshot. */
    private static void beforeTheSnapshot() {
        Check.sentence("for each entry of the message in order whose index is greater than that of its"
                + " snapshot");
        for (int more = 0; more <= 1; more++) {
            Face x = Check.started(3, 0);
            x.tick(14);
            Check.fill(x, 0, 3);
            x.tick(1);
            x.setDelay(5);
            Check.fill(x, 0, 3 + more);
            x.tick(3);
            Check.message("the slow one", x, 1, 2, 0, 1, 1, 23, 1, 2 + more);
            x.setDelay(1);
            x.tick(4);
            Check.same("committed", x.node(1, 4), 3);
            Check.same("pack", x.pack(1), 3);
            x.tick(1);
            Check.log("nothing is taken twice", x, 1, more == 0 ? "[3]" : "[3] 1:4");
            Check.same("the commit index", x.node(1, 4), 3);
            int last = x.messages() - 1;
            Check.message("success", x, last, 3, 1, 0, 1, 24, 3 + more, 1);
        }
    }

    /** The previous index is that of the snapshot, and its entry is gone. */
    private static void atTheSnapshot() {
        Check.sentence("or it is greater than the index of its snapshot and its entry there has another"
                + " term");
        Face x = new Real();
        Scenes.three(x);
        Check.same("pack", x.pack(1), 1);
        x.submit(0, 2);
        x.tick(2);
        Check.log("appended", x, 1, "[1] 1:2");
        Check.message("success", x, 0, 3, 1, 0, 1, 17, 2, 1);
    }

    private static void otherTerm() {
        Check.sentence(REMOVED);
        for (int values = 1; values <= 4; values++) {
            Face x = Scenes.twoLeaders(values, 2);
            x.setLink(0, 2, false);
            x.tick(1);
            Check.message("one entry", x, 0, 2, 0, 2, 1, 28, 1, values);
            Check.message("one entry", x, 1, 2, 2, 0, 2, 28, 1, 1);
            x.tick(1);
            Check.log("this one and all later ones are removed", x, 0, "1:-! 2:-!");
            Check.same("removed", x.statistic(5), values);
        }
    }

    /** The leader has a snapshot, and its followers have from 19 to 24 entries. */
    private static void fullFollower() {
        Check.sentence(REMOVED);
        for (int size = 19; size <= 24; size++) {
            Face x = new Real();
            Scenes.three(x);
            Check.fill(x, 0, size);
            x.tick(26);
            Check.same("pack", x.pack(0), size);
            Check.fill(x, 0, size + 4);
            x.tick(2);
            Check.message("sent", x, 0, 2, 0, 1, 1, 43, size, 4);
            x.tick(1);
            int end = Math.min(24, size + 4);
            Check.same("taken by the one with " + size, x.node(1, 5), end);
            Check.message("the end", x, 0, 3, 1, 0, 1, 44, end, 1);
            x.tick(1);
            Check.same("the match", x.noted(0, 1, 1), end);
            Check.same("committed", x.node(0, 4), end);
        }
    }

    private static void fullFollowerWithOtherTerms() {
        Check.sentence(REMOVED);
        Face x = Scenes.twoLeaders(23, 2);
        x.setLink(0, 2, false);
        Check.same("24 entries", x.node(0, 5), 24);
        x.tick(2);
        Check.log("with room by those that are removed", x, 0, "1:-! 2:-!");
        Check.same("removed", x.statistic(5), 23);
    }

    private static void commitOfAnAppend() {
        Check.sentence("Its commit index becomes the lesser one of the commit index of the message and the"
                + " end, if that is greater; and it answers success with the end.");
        Face x = new Real();
        Scenes.three(x);
        x.crash(2);
        Check.fill(x, 0, 10);
        x.tick(12);
        Check.same("committed", x.node(0, 4), 10);
        x.restart(2);
        x.tick(2);
        Check.node("as far as it has entries", x, 2, 1, 0, 1, 0, 5, 5);
        x.tick(3);
        Check.node("as far as it has entries", x, 2, 1, 0, 1, 0, 9, 9);
        x.submit(0, 11);
        x.tick(3);
        Check.node("as far as the leader had committed", x, 2, 1, 0, 1, 0, 10, 11);
    }

    private static void lateAppend() {
        Check.sentence("A commit index never decreases, except by a restart.");
        Face x = Check.started(3, 0);
        x.tick(14);
        Check.fill(x, 0, 3);
        x.tick(1);
        x.setDelay(5);
        x.tick(3);
        Check.message("the slow one with the commit index 1", x, 1, 2, 0, 1, 1, 23, 1, 2);
        x.setDelay(1);
        x.tick(4);
        Check.same("committed", x.node(1, 4), 3);
        x.tick(1);
        Check.same("the slow one has come", x.message(x.messages() - 1, 5), 3);
        Check.same("it does not take it back", x.node(1, 4), 3);
        x.crash(1);
        Check.same("nor does a crash", x.node(1, 4), 3);
        x.restart(1);
        Check.same("a restart does", x.node(1, 4), 0);
    }

    private static void appendToACandidate() {
        Check.sentence("Otherwise it becomes a follower and resets its timer.");
        Face x = new Real();
        x.setDelay(4);
        x.tick(19);
        Check.node("a candidate in the term", x, 1, 1, 1, 1, 1);
        x.tick(1);
        Check.node("a follower in the same term", x, 1, 1, 0, 1, 1, 0, 1, 1, 0, 0, 11);
    }

    /** At 16 this node has the entries 1 and 2 and knows that 1 is committed; its answer is lost. */
    private static Face withLostAnswer(int node) {
        Face x = new Real();
        Scenes.three(x);
        x.submit(0, 5);
        x.tick(2);
        Check.message("its answer", x, node - 1, 3, node, 0, 1, 17, 2, 1);
        x.lose(node - 1);
        return x;
    }

    private static void snapshotThatIsNew() {
        Check.sentence("If the index of the snapshot is greater than its commit index");
        Face x = withLostAnswer(2);
        x.tick(1);
        Check.same("pack", x.pack(0), 2);
        x.tick(1);
        Check.message("a snapshot", x, 1, 4, 0, 2, 1, 19, 2, 1);
        Check.node("before", x, 2, 1, 0, 1, 0, 1, 2, 1, 0, 0);
        x.tick(1);
        Check.node("after", x, 2, 1, 0, 1, 0, 2, 2, 1, 2, 5);
        Check.same("snapshots", x.statistic(6), 1);
        Check.message("success with its commit index", x, 1, 3, 2, 0, 1, 20, 2, 1);
    }

    private static void snapshotThatIsKnown() {
        Check.sentence("If the index of the snapshot is greater than its commit index");
        Face x = withLostAnswer(2);
        x.tick(3);
        Check.node("it has committed what the snapshot holds", x, 2, 1, 0, 1, 0, 2, 2);
        Check.message("its answer is lost again", x, 1, 3, 2, 0, 1, 20, 2, 1);
        x.lose(1);
        Check.same("pack", x.pack(0), 2);
        x.tick(2);
        Check.message("a snapshot", x, 1, 4, 0, 2, 1, 22, 2, 1);
        x.tick(1);
        Check.log("its log stays", x, 2, "1:-! 1:5!");
        Check.same("no snapshot", x.statistic(6), 0);
        Check.sentence("It answers success with its commit index.");
        Check.message("success", x, 1, 3, 2, 0, 1, 23, 2, 1);
        x.tick(1);
        Check.same("the match", x.noted(0, 2, 1), 2);
        Check.same("the next index", x.noted(0, 2, 0), 3);
        Check.sentence("Both also tell the time.");
        Check.same("the echo of a snapshot", x.noted(0, 2, 2), 21);
        Check.same("the echo of an append", x.noted(0, 1, 2), 21);
    }

    /** A snapshot takes five ticks, and one with two entries more overtakes it. */
    private static void snapshotThatIsLate() {
        Check.sentence("If the index of the snapshot is greater than its commit index");
        Face x = withLostAnswer(1);
        x.tick(1);
        Check.same("pack", x.pack(0), 2);
        Check.fill(x, 0, 4);
        x.tick(1);
        Check.message("a first snapshot", x, 0, 4, 0, 1, 1, 19, 2, 1);
        x.lose(0);
        x.setDelay(3);
        x.tick(1);
        x.setDelay(5);
        x.tick(2);
        Check.message("the slow one", x, 1, 4, 0, 1, 1, 26, 2, 1);
        x.setDelay(1);
        x.tick(1);
        Check.same("pack", x.pack(0), 2);
        x.tick(2);
        Check.message("the fast one", x, 2, 4, 0, 1, 1, 25, 4, 1);
        x.tick(1);
        Check.node("the fast one has come", x, 1, 1, 0, 1, 0, 4, 4, 1, 4);
        x.tick(1);
        Check.node("the slow one changes nothing", x, 1, 1, 0, 1, 0, 4, 4, 1, 4);
        Check.same("snapshots", x.statistic(6), 1);
        Check.sentence("It answers success with its commit index.");
        Check.message("success", x, Check.find(x, 3, 1, 0, 27), 3, 1, 0, 1, 27, 4, 1);
    }

    /** Node 1 has the entries 2 and 3, perhaps behind a snapshot, and the leader a snapshot with 2. */
    private static void snapshotBeforeEntries(boolean isPacked) {
        Check.sentence("if its log has an entry with this index and the term of the snapshot, the entries"
                + " after it stay, otherwise its log becomes empty");
        Face x = new Real();
        Scenes.three(x);
        if (isPacked) {
            Check.same("pack", x.pack(1), 1);
        }
        x.setDelay(4);
        x.submit(0, 2);
        x.tick(1);
        x.lose(0);
        x.submit(0, 3);
        x.tick(3);
        Check.message("2 and 3 for node 1", x, 1, 2, 0, 1, 1, 22, 1, 2);
        Check.message("2 and 3 for node 2", x, 2, 2, 0, 2, 1, 22, 1, 2);
        x.lose(2);
        x.tick(3);
        x.lose(3);
        x.lose(2);
        x.tick(1);
        Check.node("it does not know that 2 is committed", x, 1, 1, 0, 1, 0, 1, 3, 1);
        x.lose(1);
        x.setDelay(1);
        x.tick(1);
        Check.node("the leader does", x, 0, 1, 2, 1, 0, 2, 3);
        Check.same("pack", x.pack(0), 2);
        x.tick(1);
        Check.message("the snapshot", x, 0, 4, 0, 1, 1, 25, 2, 1);
        x.tick(1);
        Check.log("the entry after it stays", x, 1, "[2] 1:3");
        Check.node("the snapshot is its own", x, 1, 1, 0, 1, 0, 2, 3, 1, 2, 2);
        Check.same("snapshots", x.statistic(6), 1);
    }

    /**
     * The leader of the term 2 has a snapshot with the index 2 and the term 1, and comes to send it
     * by three failures of node 1, which has the entries 2 and 3 and knows that 1 is committed.
     */
    private static void snapshotOfItsOwnTerm() {
        Check.sentence("if its log has an entry with this index and the term of the snapshot, the entries"
                + " after it stay, otherwise its log becomes empty");
        Face x = new Real();
        Scenes.three(x);
        x.setDelay(4);
        x.submit(0, 2);
        x.tick(1);
        x.lose(0);
        x.submit(0, 3);
        x.tick(3);
        x.lose(2);
        x.submit(0, 4);
        x.tick(3);
        x.lose(2);
        x.tick(2);
        x.setDelay(1);
        x.tick(1);
        x.lose(2);
        x.tick(1);
        x.crash(0);
        Check.loseAll(x);
        Check.same("pack", x.pack(2), 2);
        x.tick(8);
        x.setDelay(5);
        x.tick(1);
        Check.log("the leader", x, 2, "[2] 1:3 1:4 2:-");
        Check.log("the follower", x, 1, "1:-! 1:2 1:3");
        x.tick(10);
        x.lose(Check.find(x, 2, 2, 1, 49));
        x.setLink(1, 2, true);
        x.tick(4);
        x.setLink(1, 2, false);
        x.tick(1);
        Check.message("the snapshot", x, Check.find(x, 4, 2, 1, 54), 4, 2, 1, 2, 54, 2, 1);
        x.tick(5);
        Check.log("the entry after it stays", x, 1, "[2] 1:3");
        Check.same("snapshots", x.statistic(6), 1);
    }

    /** The leader of the term 2 has a snapshot of the term 1, and node 4 nothing. */
    private static void snapshotOfAnEarlierLeader() {
        Check.sentence("the snapshot becomes its own, and its commit index becomes that of the snapshot");
        Face x = Check.started(31, 0);
        x.crash(4);
        x.tick(14);
        x.crash(0);
        Check.loseAll(x);
        x.tick(x.node(2, 9) + 2);
        Check.same("pack", x.pack(2), 1);
        Check.log("two terms", x, 2, "[1] 2:-");
        x.restart(4);
        x.tick(2);
        int time = x.statistic(0);
        int number = Check.find(x, 4, 2, 4, time + 1);
        Check.message("its term is not that of the last entry", x, number, 4, 2, 4, 2, time + 1, 1, 1);
        x.tick(1);
        Check.node("nor that of the leader", x, 4, 1, 0, 2, -1, 1, 1, 1, 1, 0);
    }

    /** The leader of the term 2 has a snapshot of the term 1 just before its own entry. */
    private static void termOfThePrevious() {
        Check.sentence("the term of the entry or snapshot there");
        Looks.Run before = x -> {
            Scenes.three(x);
            x.crash(0);
            Check.loseAll(x);
            x.tick(x.node(2, 9) + 2);
            Check.same("pack", x.pack(2), 1);
            Check.loseAll(x);
        };
        Face x = new Real();
        before.on(x);
        Check.log("two terms", x, 2, "[1] 2:-");
        x.tick(3);
        Check.log("it is that of the snapshot", x, 1, "1:-! 2:-");
        Check.sentence("Restores what was saved, which stays saved.");
        Looks.Run saved = y -> {
            before.on(y);
            y.save();
        };
        Check.alike("restored", y -> {
            saved.on(y);
            y.start(31, 9);
            y.tick(20);
            y.restore();
        }, saved);
    }

    /** Node 1 has the blank entry of the term 2 behind one of the term 1, and gets it again. */
    private static void sameTermBehindAnother() {
        Check.sentence(REMOVED);
        Face x = new Real();
        Scenes.three(x);
        x.crash(0);
        Check.loseAll(x);
        x.tick(x.node(2, 9) + 3);
        int time = x.statistic(0);
        x.lose(Check.find(x, 3, 1, 2, time + 1));
        x.tick(1);
        Check.message("sent again", x, Check.find(x, 2, 2, 1, time + 2), 2, 2, 1, 2, time + 2, 1, 1);
        x.tick(1);
        Check.log("as before", x, 1, "1:-! 2:-");
        Check.same("none is removed", x.statistic(5), 0);
    }

    /** Node 2 has a snapshot with 1 and nothing else, and the leader one with 3. */
    private static void snapshotBehindASnapshot() {
        Check.sentence("if its log has an entry with this index and the term of the snapshot, the entries"
                + " after it stay, otherwise its log becomes empty");
        Face x = new Real();
        Scenes.three(x);
        Check.same("pack", x.pack(2), 1);
        x.crash(2);
        Check.fill(x, 0, 3);
        x.tick(3);
        Check.same("pack", x.pack(0), 3);
        x.restart(2);
        x.submit(0, 4);
        x.tick(2);
        Check.log("empty", x, 2, "[3]");
        Check.same("its result", x.node(2, 8), 31 * 2 + 3);
        x.tick(3);
        Check.log("and filled again", x, 2, "[3] 1:4!");
    }

    private static void orderOfSending() {
        Check.sentence("Other members are sent to in ascending order.");
        Face x = Check.started(31, 0);
        x.crash(0);
        x.crash(1);
        x.crash(3);
        x.crash(4);
        x.tick(x.node(2, 9));
        for (int n = 0; n < 5; n += n == 1 ? 2 : 1) {
            x.restart(n);
        }
        x.tick(2);
        int[] others = {0, 1, 3, 4};
        for (int i = 0; i < 4; i++) {
            Check.message("by winning", x, i, 2, 2, others[i], 1);
        }
        x.tick(1);
        Check.loseAll(x);
        x.tick(1);
        for (int i = 0; i < 4; i++) {
            Check.message("by its timer", x, i, 2, 2, others[i], 1);
        }
    }

    private static void snapshotOfAnotherTerm() {
        Check.sentence("if its log has an entry with this index and the term of the snapshot, the entries"
                + " after it stay, otherwise its log becomes empty");
        for (int values = 0; values <= 3; values++) {
            Face x = Scenes.twoLeaders(values, 2);
            Check.same("pack", x.pack(2), 2);
            x.setLink(0, 2, false);
            x.tick(1);
            Check.message("the snapshot", x, x.messages() - 2, 4, 2, 0, 2, 28, 2, 2);
            Check.same("entries", x.node(0, 5), 1 + values);
            x.tick(1);
            Check.log("it is empty", x, 0, "[2]");
            Check.node("the snapshot is its own", x, 0, 1, 0, 2, -1, 2, 2, 2, 2, 0);
            Check.same("none is removed for its term", x.statistic(5), 0);
            Check.same("snapshots", x.statistic(6), 1);
        }
    }

    /** The snapshot of the leader in the term 1 arrives in the term 2. */
    private static void snapshotOfAnEarlierTerm() {
        Check.sentence("if the term is less, it answers as for kind 2");
        Face x = new Real();
        Scenes.three(x);
        x.crash(2);
        Check.fill(x, 0, 3);
        x.tick(3);
        Check.same("pack", x.pack(0), 3);
        x.setLink(0, 1, true);
        x.tick(x.node(1, 9));
        Check.node("the term 2", x, 1, 1, 1, 2, 1);
        x.crash(1);
        x.restart(2);
        x.setLink(0, 2, true);
        Check.loseAll(x);
        x.tick(x.node(2, 9));
        x.crash(2);
        x.restart(2);
        x.tick(x.node(2, 9));
        Check.same("a term behind that of the leader", x.node(2, 2) - x.node(0, 2), 2);
        x.setLink(0, 2, false);
        Check.loseAll(x);
        x.tick(x.node(0, 9));
        Check.message("the snapshot", x, 0, 4, 0, 2, 1, x.statistic(0) + 1, 3, 1);
        x.tick(1);
        Check.message("failure with 0", x, 0, 3, 2, 0, 3, x.statistic(0) + 1, 0, 0);
        Check.log("it is not taken", x, 2, "1:-");
        Check.same("snapshots", x.statistic(6), 0);
    }

    private static void success() {
        Check.sentence(SUCCESS);
        Face x = overtaken();
        x.tick(1);
        noted(x, "that of the fast one", 6, 5, 18);
        Check.same("committed", x.node(0, 4), 5);
        x.tick(1);
        noted(x, "the slow one changes nothing", 6, 5, 18);
        x.tick(2);
        noted(x, "an equal index with a later time", 6, 5, 21);
    }

    private static void noted(Face x, String when, int next, int match, int echo) {
        Check.same(when + ": the next index", x.noted(0, 1, 0), next);
        Check.same(when + ": the match", x.noted(0, 1, 1), match);
        Check.same(when + ": the echo", x.noted(0, 1, 2), echo);
    }

    private static final String FAILURE =
            "For failure, the next index becomes the lesser one of itself minus 1 and the index of the"
            + " answer plus 1, but at least 1, and it sends to the sender.";

    /** The leader of the term 2 has seven entries more than node 2. */
    private static Face withFailures(int delay) {
        Face x = new Real();
        Scenes.three(x);
        x.crash(2);
        Check.fill(x, 0, 7);
        x.tick(12);
        x.crash(0);
        Check.loseAll(x);
        x.tick(x.node(1, 9));
        x.restart(2);
        x.setDelay(1);
        x.tick(1);
        x.setDelay(delay);
        x.tick(1);
        Check.node("it leads", x, 1, 1, 2, 2, 1, 7, 8);
        return x;
    }

    private static void failure() {
        Check.sentence(FAILURE);
        Face x = withFailures(1);
        Check.same("the next index", x.noted(1, 2, 0), 8);
        x.tick(2);
        Check.same("the index of the answer plus 1", x.noted(1, 2, 0), 2);
        Check.same("the match", x.noted(1, 2, 1), 0);
        Check.same("the echo", x.noted(1, 2, 2), -1);
        Check.message("sent to the sender", x, 0, 2, 1, 2, 2, x.statistic(0) + 1, 1, 4);
    }

    /** Three appends are on their way before the first failure is heard of. */
    private static void failureAgain() {
        Check.sentence(FAILURE);
        Face x = withFailures(5);
        int time = x.statistic(0);
        x.tick(10);
        Check.same("the index of the answer plus 1", x.noted(1, 2, 0), 2);
        Check.message("sent at once", x, Check.find(x, 2, 1, 2, time + 15), 2, 1, 2, 2, time + 15, 1, 4);
        x.tick(2);
        Check.same("itself minus 1", x.noted(1, 2, 0), 1);
        Check.message("sent at once", x, Check.find(x, 2, 1, 2, time + 17), 2, 1, 2, 2, time + 17, 0, 4);
        x.tick(3);
        Check.same("but at least 1", x.noted(1, 2, 0), 1);
        Check.message("sent at once", x, Check.find(x, 2, 1, 2, time + 20), 2, 1, 2, 2, time + 20, 0, 4);
    }

    /**
     * Node 1 answers in the term 1 at 25, with a delay of 5; node 0 hears of the term 2 at 27,
     * stands in the term 3 at once, as it keeps its timer, and leads again at 29.
     */
    private static void answersOfAnEarlierTerm() {
        Check.sentence("if the receiver is a leader and the term is its own");
        Face x = new Real();
        Scenes.three(x);
        x.crash(2);
        x.setLink(0, 2, true);
        x.setLink(1, 2, true);
        x.submit(0, 5);
        x.tick(4);
        x.restart(2);
        x.tick(6);
        x.setDelay(5);
        x.tick(1);
        Check.message("a success in the term 1", x, 0, 3, 1, 0, 1, 30, 2, 1);
        x.setDelay(1);
        x.setLink(0, 2, false);
        x.tick(4);
        Check.node("it leads again", x, 0, 1, 2, 3, 0, 2, 3, 3);
        noted(x, "before", 3, 0, -1);
        x.tick(1);
        Check.same("the message is gone", Check.find(x, 3, 1, 0, 30), -1);
        noted(x, "it is not counted", 3, 0, -1);
        x.tick(1);
        noted(x, "that of the term 3 is", 4, 3, 29);
    }

    private static void answersToAFollower() {
        Check.sentence("if the receiver is a leader and the term is its own");
        Face x = new Real();
        Scenes.three(x);
        x.submit(0, 5);
        x.tick(2);
        x.crash(0);
        x.restart(0);
        x.tick(1);
        Check.node("a follower commits nothing", x, 0, 1, 0, 1, 0, 0, 2);
        Check.same("and sends nothing", x.messages(), 0);
    }
}
