/** Boundaries of the description: standing for election, receiving, requests, replies, winning. */
public final class ElectionEdges {
    private static final String GRANT =
            "the receiver grants its vote if the term of the message is its own, it has no vote or has"
            + " voted for the sender, and the last term of the message is greater than its own last"
            + " term, or equal with a last index that is not less than its own";

    private ElectionEdges() { }

    public static void main(String[] args) {
        standing();
        alone();
        greaterTerm();
        equalTerm();
        grantInItsTerm();
        grantInItsTermAlone();
        grantOnce();
        grantByIndex();
        grantByTerm();
        refusedByTerm();
        grantedTimer();
        replyToNoCandidate();
        replyOfAnEarlierTerm();
        replyThatRefuses();
        voters();
        winning();
        blankEntry();
        blankEntryAlone();
        Check.end("ElectionEdges");
    }

    private static void standing() {
        Check.sentence("The term of the node increases by 1, it becomes a candidate, votes for itself,"
                + " and its timer is reset; it sends a request (kind 0), with its last index and last"
                + " term, to each other member, in ascending order.");
        Face x = Check.started(26, 0);
        x.tick(10);
        Check.node("the first one", x, 3, 1, 1, 1, 3, 0, 0, 0, 0, 0, 11, 0, 26, -1, 8);
        Check.same("requests", x.messages(), 2);
        Check.message("to the lesser one", x, 0, 0, 3, 1, 1, 11, 0, 0);
        Check.message("to the greater one", x, 1, 0, 3, 4, 1, 11, 0, 0);
        Check.same("how many stood", x.statistic(3), 1);
        Face y = new Real();
        Scenes.three(y);
        y.submit(0, 4);
        y.tick(4);
        y.crash(0);
        Check.loseAll(y);
        y.tick(y.node(2, 9));
        Check.message("with its last index and last term", y, y.messages() - 1, 0, 2, 1, 2,
                y.statistic(0) + 1, 2, 1);
    }

    private static void alone() {
        Check.sentence("If it is a quorum alone, it wins at once.");
        for (int n = 0; n < 5; n++) {
            Face x = Check.started(1 << n, 0);
            int timer = x.node(n, 9);
            x.tick(timer - 1);
            Check.same("before", x.node(n, 1), 0);
            x.tick(1);
            Check.node("at once", x, n, 1, 2, 1, n, 1, 1, 1, 0, 0, 3, 0, 1 << n, timer + 6, 0);
            Check.same("no message", x.statistic(1), 0);
        }
        Face x = Check.started(3, 0);
        x.tick(8);
        Check.same("one of two is not", x.node(0, 1), 1);
    }

    private static void greaterTerm() {
        Check.sentence("If the term of a message is greater than that of the receiver, the receiver first"
                + " gets this term, has no vote, and becomes a follower.");
        Face x = withOldRequest();
        x.tick(4);
        x.lose(1);
        x.setDelay(1);
        x.tick(1);
        Check.node("a candidate before", x, 0, 1, 1, 1, 0);
        Check.message("a reply of a greater term", x, 0, 1, 3, 0, 2, 21, 0, 0);
        x.tick(1);
        Check.node("a follower after", x, 0, 1, 0, 2, -1);
    }

    /**
     * The members 0 and 3 do not hear of each other until 0 stands in the term 1 at 15, and its
     * request takes so long that 3 stands in the term 2 at 19.
     */
    private static Face withOldRequest() {
        Face x = Check.started(9, 9);
        x.setLink(0, 3, true);
        x.tick(14);
        x.setLink(0, 3, false);
        x.setDelay(5);
        x.tick(1);
        Check.node("it stands", x, 0, 1, 1, 1, 0);
        return x;
    }

    private static void equalTerm() {
        Check.sentence("If the term of a message is greater than that of the receiver");
        Face x = new Real();
        x.setDelay(4);
        x.tick(11);
        Check.node("one candidate", x, 0, 1, 1, 1, 0);
        Check.node("another one", x, 1, 1, 1, 1, 1);
        x.tick(1);
        Check.node("an equal term leaves it a candidate", x, 1, 1, 1, 1, 1);
        x.tick(3);
        Check.node("and the other one too", x, 0, 1, 1, 1, 0);
        x.tick(1);
        Check.node("so that it can win", x, 0, 1, 2, 1, 0);
    }

    private static void grantInItsTerm() {
        Check.sentence(GRANT);
        Face x = withOldRequest();
        x.tick(4);
        Check.node("it is in the term 2", x, 3, 1, 1, 2, 3);
        x.setDelay(1);
        x.tick(1);
        Check.message("no vote in an earlier term", x, x.messages() - 1, 1, 3, 0, 2, 21, 0, 0);
        Check.node("it stays as it is", x, 3, 1, 1, 2, 3);
        Check.sentence("In any case it sends a reply (kind 1), granted or not.");
        Face y = new Real();
        y.tick(9);
        Check.message("granted", y, 0, 1, 1, 0, 1, 10, 0, 1);
        Check.message("granted", y, 1, 1, 2, 0, 1, 10, 0, 1);
    }

    /**
     * Node 1 asks in the term 2 at 30, with a delay of 5. Node 0 hears of the term 3 at 33 from node
     * 2, which is behind and gets no vote, so that node 0 still has one, but not for the term 2.
     */
    private static void grantInItsTermAlone() {
        Check.sentence(GRANT);
        Face x = new Real();
        Scenes.three(x);
        x.crash(2);
        x.setLink(0, 2, true);
        x.setLink(1, 2, true);
        x.submit(0, 5);
        x.tick(1);
        x.restart(2);
        x.tick(4);
        x.crash(0);
        Check.loseAll(x);
        x.tick(10);
        x.setDelay(5);
        x.tick(1);
        Check.message("node 1 asks", x, 0, 0, 1, 0, 2, 35, 2, 1);
        x.setDelay(1);
        x.restart(0);
        x.tick(1);
        x.setLink(0, 2, false);
        x.tick(2);
        Check.node("node 0 is in the term 3", x, 0, 1, 0, 3, -1, 0, 2, 1);
        x.tick(2);
        Check.message("no vote for the term 2", x, 0, 1, 0, 1, 3, 36, 0, 0);
        Check.node("node 0 has its vote", x, 0, 1, 0, 3, -1, 0, 2, 1);
    }

    private static void grantOnce() {
        Check.sentence(GRANT);
        Face x = new Real();
        x.setDelay(4);
        x.tick(12);
        Check.message("it has voted for itself", x, 2, 1, 1, 0, 1, 16, 0, 0);
        Check.message("it has no vote", x, 3, 1, 2, 0, 1, 16, 0, 1);
        x.tick(3);
        Check.message("it has voted for itself", x, 2, 1, 0, 1, 1, 19, 0, 0);
        Check.message("it has voted for another", x, 3, 1, 2, 1, 1, 19, 0, 0);
        Check.same("its vote", x.node(2, 3), 0);
    }

    /**
     * Node 1 has this number of entries more than node 2, both with the last term 1, and asks it
     * for its vote, or is asked.
     */
    private static void grantByIndex() {
        Check.sentence(GRANT);
        for (int more = 0; more <= 2; more++) {
            for (int from = 1; from <= 2; from++) {
                Face x = new Real();
                Scenes.three(x);
                x.crash(2);
                Check.fill(x, 0, 1 + more);
                x.tick(4);
                x.crash(0);
                Check.same("the last index of 1", x.node(1, 5), 1 + more);
                Check.same("the last index of 2", x.node(2, 5), 1);
                x.restart(2);
                x.crash(3 - from);
                Check.loseAll(x);
                x.tick(x.node(from, 9));
                x.restart(3 - from);
                x.tick(1);
                boolean isGranted = from == 1 || more == 0;
                Check.message(more + " more, asked by " + from, x, 0, 1, 3 - from, from, 2,
                        x.statistic(0) + 1, 0, isGranted ? 1 : 0);
                Check.same("its vote", x.node(3 - from, 3), isGranted ? from : -1);
            }
        }
    }

    /** Node 0 has entries of the term 1 that the others never saw; they have one of the term 2. */
    private static Face withOtherTerm(int values) {
        Face x = new Real();
        Scenes.three(x);
        x.setLink(0, 1, true);
        x.setLink(0, 2, true);
        Check.fill(x, 0, 1 + values);
        x.tick(12);
        Check.same("the other leader", x.leader(), 2);
        Check.log("the term 1", x, 1, "1:-! 2:-!");
        return x;
    }

    private static void grantByTerm() {
        Check.sentence(GRANT);
        for (int values = 0; values <= 23; values += values < 2 ? 1 : 21) {
            Face x = withOtherTerm(values);
            x.crash(0);
            x.crash(2);
            x.setLink(0, 1, false);
            Check.loseAll(x);
            x.tick(x.node(1, 9));
            x.restart(0);
            x.tick(1);
            Check.message("a greater last term, against " + values + " more", x, 0, 1, 0, 1,
                    x.node(1, 2), x.statistic(0) + 1, 0, 1);
        }
    }

    private static void refusedByTerm() {
        Check.sentence(GRANT);
        for (int values = 0; values <= 23; values += values < 2 ? 1 : 21) {
            Face x = withOtherTerm(values);
            x.crash(1);
            x.crash(2);
            Check.loseAll(x);
            x.crash(0);
            x.restart(0);
            x.setLink(0, 1, false);
            while (x.node(0, 2) < 3) {
                x.tick(x.node(0, 9));
            }
            x.restart(1);
            x.tick(1);
            Check.message("a lesser last term, with " + values + " more", x, 0, 1, 1, 0, 3,
                    x.statistic(0) + 1, 0, 0);
            Check.same("no vote", x.node(1, 3), -1);
        }
    }

    private static void grantedTimer() {
        Check.sentence("Then it votes for the sender and resets its timer.");
        Face x = new Real();
        x.tick(9);
        Check.node("granted, and one tick later", x, 1, 1, 0, 1, 0, 0, 0, 0, 0, 0, 11);
        Face y = new Real();
        y.crash(1);
        y.tick(8);
        y.restart(1);
        y.tick(1);
        Check.node("granted", y, 1, 1, 0, 1, 0, 0, 0, 0, 0, 0, 11);
        Face z = new Real();
        z.setDelay(4);
        z.tick(12);
        int timer = z.node(1, 9);
        Check.same("not granted: its timer goes on", timer, 12 - 1);
    }

    private static void replyToNoCandidate() {
        Check.sentence("if the receiver is a candidate, the term is its own and the vote is granted, the"
                + " sender is one of its voters");
        Face x = Check.started(31, 0);
        x.tick(10);
        Check.same("a leader by five votes", x.node(0, 1), 2);
        Check.same("has won once", x.statistic(4), 1);
        Check.same("and has no voters", x.node(0, 13), 0);
        Face y = new Real();
        y.tick(9);
        y.crash(0);
        y.restart(0);
        y.tick(1);
        Check.node("a follower does not win", y, 0, 1, 0, 1, 0);
        Check.same("and has no voters", y.node(0, 13), 0);
    }

    /** The reply to the request of the term 1 takes so long that node 0 stands again before. */
    private static void replyOfAnEarlierTerm() {
        Check.sentence("the term is its own");
        Face x = Check.started(3, 0);
        x.setDelay(5);
        x.crash(1);
        x.tick(5);
        x.restart(1);
        x.tick(8);
        Check.message("granted in the term 1", x, 0, 1, 1, 0, 1, 18, 0, 1);
        x.tick(4);
        Check.node("in the term 2", x, 0, 1, 1, 2, 0);
        x.tick(1);
        Check.node("it does not win", x, 0, 1, 1, 2, 0);
        Check.same("its voters", x.node(0, 13), 1);
    }

    private static void replyThatRefuses() {
        Check.sentence("the vote is granted");
        Face x = new Real();
        x.setDelay(4);
        x.tick(12);
        x.lose(3);
        x.tick(4);
        Check.node("a refusal does not count", x, 0, 1, 1, 1, 0);
        Check.same("its voters", x.node(0, 13), 1);
    }

    private static void voters() {
        Check.sentence("A candidate whose voters, including itself, are a quorum wins.");
        for (int up = 1; up <= 5; up++) {
            Face x = Check.started(31, 0);
            x.tick(8);
            for (int n = up; n < 5; n++) {
                x.crash(n);
            }
            x.tick(2);
            Check.same("a leader by " + up, x.node(0, 1), up >= 3 ? 2 : 1);
            Check.same("the voters", x.node(0, 13), up >= 3 ? 0 : (1 << up) - 1);
        }
    }

    private static void winning() {
        Check.sentence("For each other node, it notes the next index, which is its last index plus 1, a"
                + " match, which is 0, and an echo, which is -1.");
        Face x = new Real();
        Scenes.three(x);
        Check.fill(x, 0, 4);
        x.tick(6);
        x.crash(0);
        x.tick(x.node(2, 9) + 2);
        Check.node("it has won", x, 2, 1, 2, 2, 2, 4, 5, 2);
        for (int other : new int[] {0, 1, 3, 4}) {
            Check.same("the next index", x.noted(2, other, 0), 5);
            Check.same("the match", x.noted(2, other, 1), 0);
            Check.same("the echo", x.noted(2, other, 2), -1);
        }
        Check.sentence("Then it appends a blank entry with its term to its log, if its log has fewer than"
                + " 24 entries, and sends to all other members.");
        Check.same("the term", x.entry(2, 5, 0), 2);
        Check.same("the kind", x.entry(2, 5, 1), 3);
        Check.same("the value", x.entry(2, 5, 2), 0);
        int time = x.statistic(0);
        Check.same("messages", x.messages(), 2);
        Check.message("the first one", x, 0, 2, 2, 0, 2, time + 1, 4, 1);
        Check.message("the other one", x, 1, 2, 2, 1, 2, time + 1, 4, 1);
    }

    /** The blank entry is the 24th, or there is none. */
    private static void blankEntry() {
        Check.sentence("if its log has fewer than 24 entries");
        for (int size = 22; size <= 24; size++) {
            Face x = new Real();
            Scenes.three(x);
            Check.fill(x, 0, size);
            x.tick(24);
            Check.same("all have them", x.node(2, 4), size);
            x.crash(0);
            x.tick(x.node(2, 9) + 2);
            Check.node("it has won", x, 2, 1, 2, 2, 2, size, Math.min(24, size + 1), size < 24 ? 2 : 1);
            Check.message("it sends", x, 1, 2, 2, 1, 2, x.statistic(0) + 1, size, size < 24 ? 1 : 0);
        }
    }

    private static void blankEntryAlone() {
        Check.sentence("if its log has fewer than 24 entries");
        for (int size = 22; size <= 24; size++) {
            Face x = new Real();
            Scenes.alone(x);
            Check.fill(x, 0, size);
            x.crash(0);
            x.restart(0);
            x.tick(x.node(0, 9));
            Check.node("it has won", x, 0, 1, 2, 2, 0, size < 24 ? size + 1 : 0, Math.min(24, size + 1));
        }
    }
}
