/** Promises 12 to 22: the questions. */
public final class QuestionTests {
    private static final int MAX = Integer.MAX_VALUE;
    private static final int MIN = Integer.MIN_VALUE;
    private static final int[] NO_NODES = {-1, 5, MIN, MAX};

    private QuestionTests() { }

    public static void main(String[] args) {
        promise12();
        promise13();
        promise13Failure();
        promise14();
        promise15And16();
        promise16Kinds();
        promise17();
        promise18();
        promise19();
        promise20();
        promise21();
        promise22();
        Check.end("QuestionTests");
    }

    private static void promise12() {
        Face x = new Real();
        for (int node : NO_NODES) {
            Check.refuses("node(" + node + ", 0)", Check.INDEX, () -> x.node(node, 0));
            Check.refuses("node(" + node + ", 14)", Check.INDEX, () -> x.node(node, 14));
        }
        for (int what : new int[] {-1, 14, MIN, MAX}) {
            Check.refuses("node(0, " + what + ")", Check.ARGUMENT, () -> x.node(0, what));
        }
        x.tick(14);
        x.submit(0, -7);
        Check.node("the leader", x, 0, 1, 2, 1, 0, 1, 2, 1, 0, 0, 1, 0, 7, 18, 0);
        Check.node("a follower", x, 2, 1, 0, 1, 0, 1, 1, 1, 0, 0, 6, 0, 7, -1, 0);
        Check.node("no member", x, 4, 1, 0, 0, -1, 0, 0, 0, 0, 0, 13, 0, 7, -1, 0);
        x.tick(3);
        Check.same("the result", x.node(0, 8), -7);
        x.submit(0, MAX);
        x.tick(4);
        Check.same("the result with overflow", x.node(0, 8), 31 * -7 + MAX);
        x.reconfigure(0, 25);
        Check.same("the old group", x.node(0, 10), 7);
        Check.same("the new group", x.node(0, 11), 25);
        x.crash(3);
        x.crash(4);
        x.tick(9);
        Check.same("a joint quorum is one of each group", x.node(0, 4), 3);
        Check.same("the lease needs both groups", x.node(0, 12), -1);
    }

    private static void promise13() {
        Face x = new Real();
        for (int node : NO_NODES) {
            Check.refuses("leader " + node, Check.INDEX, () -> x.noted(node, 0, 0));
            Check.refuses("other " + node, Check.INDEX, () -> x.noted(0, node, 0));
            Check.refuses("both " + node, Check.INDEX, () -> x.noted(node, node, 9));
        }
        Check.refuses("the same", Check.ARGUMENT, () -> x.noted(1, 1, 0));
        for (int what : new int[] {-1, 3, MIN, MAX}) {
            Check.refuses("what " + what, Check.ARGUMENT, () -> x.noted(0, 1, what));
        }
        Check.refuses("no leader", Check.STATE, () -> x.noted(0, 1, 0));
        x.tick(10);
        for (int other = 1; other < 5; other++) {
            Check.same("the next index of " + other, x.noted(0, other, 0), 1);
            Check.same("the match of " + other, x.noted(0, other, 1), 0);
            Check.same("the echo of " + other, x.noted(0, other, 2), -1);
        }
        x.setLink(0, 2, true);
        x.tick(2);
        Check.same("the next index", x.noted(0, 1, 0), 2);
        Check.same("the match", x.noted(0, 1, 1), 1);
        Check.same("the echo is when it was sent", x.noted(0, 1, 2), 10);
        Check.same("of the one that is cut off", x.noted(0, 2, 2), -1);
        x.crash(0);
        Check.refuses("a leader no more", Check.STATE, () -> x.noted(0, 1, 0));
    }

    /** The new leader begins behind its own log, and a failure leads it back at once. */
    private static void promise13Failure() {
        Face x = new Real();
        x.tick(14);
        x.crash(2);
        for (int i = 0; i < 6; i++) {
            x.submit(0, i);
        }
        x.tick(12);
        x.crash(0);
        while (x.node(1, 1) != 1) {
            x.tick(1);
        }
        x.restart(2);
        x.tick(2);
        Check.same("it leads", x.leader(), 1);
        Check.same("the next index", x.noted(1, 2, 0), 8);
        x.tick(1);
        int time = x.statistic(0);
        Check.message("failure", x, 0, 3, 2, 1, x.node(1, 2), time + 1, 1, 0);
        x.tick(1);
        Check.same("the next index", x.noted(1, 2, 0), 2);
        Check.same("the match stays", x.noted(1, 2, 1), 0);
        Check.same("the echo stays", x.noted(1, 2, 2), -1);
        Check.message("sent at once", x, 0, 2, 1, 2, x.node(1, 2), time + 2, 1, 4);
    }

    private static void promise14() {
        Face x = Check.started(2, 0);
        x.tick(12);
        x.submit(1, -3);
        x.reconfigure(1, 3);
        int[][] due = {{1, 3, 0}, {1, 0, -3}, {1, 1, 67}};
        for (int i = 0; i < 3; i++) {
            for (int what = 0; what < 3; what++) {
                Check.same("entry " + (i + 1), x.entry(1, i + 1, what), due[i][what]);
            }
        }
        for (int index : new int[] {0, 4, -1, MIN, MAX}) {
            Check.refuses("index " + index, Check.INDEX, () -> x.entry(1, index, 0));
            Check.refuses("index " + index, Check.INDEX, () -> x.entry(1, index, 3));
        }
        for (int node : NO_NODES) {
            Check.refuses("node " + node, Check.INDEX, () -> x.entry(node, 1, 0));
        }
        for (int what : new int[] {-1, 3, MIN, MAX}) {
            Check.refuses("what " + what, Check.ARGUMENT, () -> x.entry(1, 1, what));
        }
        x.tick(8);
        Check.same("the kind of a configuration", x.entry(1, 4, 1), 2);
        Check.same("its value", x.entry(1, 4, 2), 3);
        int count = x.pack(1);
        Check.refuses("an entry in the snapshot", Check.INDEX, () -> x.entry(1, count, 0));
    }

    private static void promise15And16() {
        Face x = new Real();
        Check.same("messages", x.messages(), 0);
        Check.refuses("message(0, 0)", Check.INDEX, () -> x.message(0, 0));
        Check.refuses("message(0, 9)", Check.INDEX, () -> x.message(0, 9));
        x.setDelay(3);
        x.tick(8);
        Check.same("messages", x.messages(), 2);
        Check.message("the first", x, 0, 0, 0, 1, 1, 11, 0, 0);
        Check.message("the second", x, 1, 0, 0, 2, 1, 11, 0, 0);
        for (int i : new int[] {-1, 2, 40, 41, MIN, MAX}) {
            Check.refuses("message " + i, Check.INDEX, () -> x.message(i, 7));
        }
        for (int what : new int[] {-1, 7, MIN, MAX}) {
            Check.refuses("what " + what, Check.ARGUMENT, () -> x.message(1, what));
        }
        x.setDelay(1);
        x.tick(3);
        Check.same("a node stands before they are received", x.statistic(3), 1);
        Check.message("a reply", x, 0, 1, 1, 0, 1, 12, 0, 1);
    }

    private static void promise16Kinds() {
        Face x = new Real();
        x.tick(14);
        for (int i = 0; i < 3; i++) {
            x.submit(0, i);
        }
        x.tick(1);
        Check.message("append", x, 0, 2, 0, 1, 1, 16, 1, 3);
        x.tick(1);
        Check.message("answer", x, 1, 3, 2, 0, 1, 17, 4, 1);
        x.tick(4);
        x.crash(0);
        while (x.statistic(3) == 1) {
            x.tick(1);
        }
        Check.same("a request", x.message(0, 0), 0);
        Check.same("with its last index", x.message(0, 5), 4);
        Check.same("and its last term", x.message(0, 6), 1);
    }

    private static void promise17() {
        Face x = new Real();
        Check.refuses("lose(0)", Check.INDEX, () -> x.lose(0));
        x.start(31, 0);
        x.tick(8);
        Check.same("messages", x.messages(), 4);
        for (int i : new int[] {-1, 4, 40, MIN, MAX}) {
            Check.refuses("lose(" + i + ")", Check.INDEX, () -> x.lose(i));
        }
        Check.same("none is lost", x.statistic(2), 0);
        Check.same("lose(1)", x.lose(1), 3);
        int[] receivers = {1, 3, 4};
        for (int i = 0; i < 3; i++) {
            Check.same("the order stays", x.message(i, 2), receivers[i]);
        }
        Check.same("lose the last one", x.lose(2), 2);
        Check.same("lose the first one", x.lose(0), 1);
        Check.same("lost", x.statistic(2), 3);
        Check.same("sent", x.statistic(1), 4);
        x.tick(1);
        Check.same("not received", x.node(1, 2), 0);
        Check.same("received", x.node(3, 2), 1);
    }

    private static void promise18() {
        Face x = new Real();
        x.tick(9);
        Check.refuses("no leader", Check.NO_ELEMENT, () -> x.leader());
        x.tick(5);
        Check.same("the leader", x.leader(), 0);
        x.setLink(0, 1, true);
        x.setLink(0, 2, true);
        x.tick(30);
        Check.same("the old one leads still", x.node(0, 1), 2);
        int newer = x.leader();
        Check.holds("but the other one has a greater term", newer != 0 && x.node(newer, 2) > 1);
        x.crash(newer);
        Check.same("without the newer one", x.leader(), 0);
        x.crash(0);
        Check.refuses("no leader is up", Check.NO_ELEMENT, () -> x.leader());
        promise18OtherOrder();
    }

    private static void promise18OtherOrder() {
        Face x = new Real();
        x.crash(0);
        x.crash(1);
        x.tick(14);
        x.restart(0);
        x.restart(1);
        x.tick(2);
        Check.same("the last node leads", x.leader(), 2);
        x.setLink(0, 2, true);
        x.setLink(1, 2, true);
        x.tick(40);
        Check.same("it leads still", x.node(2, 1), 2);
        Check.holds("but an earlier node has a greater term", x.leader() < 2);
    }

    private static void promise19() {
        Face x = Check.started(1, 0);
        for (int i = 1; i <= 101; i++) {
            x.tick(16);
            x.pack(0);
            x.crash(0);
            x.restart(0);
        }
        Check.same("its term", x.node(0, 2), 101);
        Check.same("wins", x.statistic(4), 101);
        for (int term = 1; term <= 99; term++) {
            Check.same("winner(" + term + ")", x.winner(term), 0);
        }
        for (int term : new int[] {0, -1, 100, 101, MIN, MAX}) {
            Check.refuses("winner(" + term + ")", Check.NO_ELEMENT, () -> x.winner(term));
        }
        Face y = new Real();
        y.tick(8);
        Check.refuses("who stands has not won", Check.NO_ELEMENT, () -> y.winner(1));
        y.crash(0);
        y.tick(20);
        Check.refuses("nobody won the term 1", Check.NO_ELEMENT, () -> y.winner(1));
        Check.same("a later one", y.winner(y.node(y.leader(), 2)), y.leader());
    }

    private static void promise20() {
        Face x = new Real();
        for (int node : NO_NODES) {
            Check.refuses("alike(" + node + ", 0)", Check.INDEX, () -> x.alike(node, 0));
            Check.refuses("alike(0, " + node + ")", Check.INDEX, () -> x.alike(0, node));
        }
        Check.same("empty logs", x.alike(0, 4), 0);
        x.tick(14);
        x.submit(0, 1);
        Check.same("one is longer", x.alike(0, 1), 1);
        Check.same("the other way round", x.alike(1, 0), 1);
        Check.same("itself", x.alike(0, 0), 2);
        Check.same("with an empty one", x.alike(0, 3), 0);
        x.pack(0);
        Check.same("with a snapshot", x.alike(0, 1), 1);
        Check.same("beyond the log of the other", x.alike(0, 3), -1);
        Check.same("the other way round", x.alike(3, 0), -1);
        x.tick(6);
        x.pack(0);
        x.pack(1);
        Check.same("two snapshots", x.alike(1, 0), 2);
        x.setLink(0, 1, true);
        x.setLink(0, 2, true);
        x.submit(0, 5);
        x.tick(30);
        int other = x.leader();
        Check.same("entries with other terms", x.node(other, 5), 3);
        Check.same("are not alike", x.alike(0, other), 2);
    }

    private static void promise21() {
        Face x = new Real();
        for (int what : new int[] {-1, 7, MIN, MAX}) {
            Check.refuses("statistic(" + what + ")", Check.ARGUMENT, () -> x.statistic(what));
        }
        x.setLink(0, 1, true);
        x.tick(8);
        x.lose(0);
        Check.same("lost at once and by lose", x.statistic(2), 2);
        Check.same("sent", x.statistic(1), 2);
        x.setLink(0, 1, false);
        x.tick(12);
        Check.same("the time", x.statistic(0), 20);
        int leader = x.leader();
        Check.same("who stood", x.statistic(3), 2);
        Check.same("who won", x.statistic(4), 1);
        int lost = x.statistic(2);
        x.crash(3 - leader);
        x.tick(3);
        Check.same("lost as the receiver was down", x.statistic(2), lost + 1);
        Check.same("removed", x.statistic(5), 0);
        Check.same("snapshots", x.statistic(6), 0);
    }

    private static void promise22() {
        Face x = new Real();
        for (int node : NO_NODES) {
            Check.refuses("share(" + node + ")", Check.INDEX, () -> x.share(node));
        }
        Check.refuses("no entries", Check.ARITHMETIC, () -> x.share(0));
        x.tick(10);
        Check.same("none is committed", x.share(4), 0);
        x.tick(2);
        Check.same("one of three", x.share(0), 1.0 / 3);
        x.tick(2);
        Check.same("all", x.share(1), 1);
        x.submit(0, 1);
        x.submit(0, 1);
        Check.same("three of five", x.share(2), 3.0 / 5);
        x.crash(2);
        Check.same("only those that are up", x.share(2), 2.0 / 4);
        x.reconfigure(0, 24);
        Check.same("the members of both groups", x.share(0), 2.0 / 5);
        x.crash(0);
        Check.same("without the leader", x.share(1), 1);
        x.crash(1);
        Check.refuses("none is up", Check.ARITHMETIC, () -> x.share(1));
    }
}
