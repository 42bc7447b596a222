/** Boundaries of the promises 1 to 22: what is allowed, and what is returned then. */
public final class PromiseEdges {
    private static final int MAX = Integer.MAX_VALUE;
    private static final int MIN = Integer.MIN_VALUE;

    private PromiseEdges() { }

    public static void main(String[] args) {
        constructor();
        start();
        startAnew();
        tick();
        setDelay();
        setLink();
        setLinkLater();
        crash();
        restart();
        submit();
        submitLater();
        reconfigure();
        pack();
        read();
        node();
        noted();
        entry();
        messages();
        message();
        lose();
        leader();
        leaderOfTheGreatestTerm();
        winner();
        alike();
        alikeByTerms();
        statistic();
        share();
        shareOfMembers();
        Check.end("PromiseEdges");
    }

    private static void constructor() {
        Check.sentence("Creates a simulation with the members 0, 1 and 2 and the seed 0.");
        Check.alike("a new object", x -> { }, x -> x.start(7, 0));
    }

    private static void start() {
        Check.sentence("Returns the number of members.");
        for (int members = 1; members < 32; members++) {
            Face x = new Real();
            Check.same("start(" + members + ", 0)", x.start(members, 0), Integer.bitCount(members));
            for (int n = 0; n < 5; n++) {
                Check.same("the configuration", x.node(n, 11), members);
                Check.same("one group", x.node(n, 10), 0);
            }
        }
        Check.sentence("the seed, any int");
        for (int seed : new int[] {MIN, -1, 0, 1, MAX}) {
            Face x = new Real();
            Check.same("start(31, " + seed + ")", x.start(31, seed), 5);
            Check.same("sixty ticks", x.tick(60), 60);
        }
    }

    private static final Looks.Run LONG = x -> {
        Scenes.twoLeaders(x, 4, 3);
        x.pack(2);
        x.setLink(0, 2, false);
        x.tick(3);
        x.submit(2, 9);
        x.reconfigure(2, 31);
        x.setLink(3, 4, true);
        x.crash(1);
        x.setDelay(4);
        x.tick(3);
    };

    private static void startAnew() {
        Check.sentence("Begins anew: the time is 0, there are no messages, no link is cut, all nodes are up,"
                + " followers in the term 0, without votes and entries, and their configuration consists"
                + " of one group, the members; all timers are reset.");
        for (int members : new int[] {1, 16, 31}) {
            Check.alike("after a long run", x -> {
                LONG.on(x);
                x.start(members, -3);
            }, x -> x.start(members, -3));
            Check.alike("after another one", x -> {
                Scenes.crowd(x);
                x.tick(10);
                x.start(members, -3);
            }, x -> x.start(members, -3));
        }
        Face y = new Real();
        LONG.on(y);
        Check.holds("messages", y.messages() > 0);
        Check.holds("a snapshot", y.node(0, 7) > 0);
        Check.holds("a joint configuration", y.node(2, 10) > 0);
        Check.sentence("The delay and the statistics begin anew, too; the input buffer, the text and what"
                + " was saved stay.");
        Looks.Run kept = x -> {
            x.start(3, 5);
            x.tick(20);
            x.save();
            x.write(0);
            Check.feed(x, "crash 1;");
        };
        Check.alike("what stays", x -> {
            kept.on(x);
            x.setDelay(5);
            x.tick(9);
            x.start(31, 8);
        }, x -> {
            kept.on(x);
            x.start(31, 8);
        });
        Face z = new Real();
        kept.on(z);
        z.setDelay(5);
        z.start(31, 8);
        Check.same("the delay", z.setDelay(5), 1);
        Check.same("the buffer", z.feed('t'), 9);
        Check.same("the text", z.text(0), '1');
        Check.same("what was saved", z.restore(), 20);
    }

    private static void tick() {
        Check.sentence("the number of ticks, 1 to 60");
        Face x = new Real();
        Check.same("tick(1)", x.tick(1), 1);
        Check.same("tick(60)", x.tick(60), 61);
        Check.same("tick(59)", x.tick(59), 120);
        Check.alike("sixty", y -> y.tick(60), y -> {
            for (int i = 0; i < 60; i++) {
                y.tick(1);
            }
        });
    }

    private static void setDelay() {
        Check.sentence("Returns the previous delay.");
        Face x = new Real();
        int previous = 1;
        for (int delay : new int[] {1, 5, 5, 1, 2, 3, 4, 1}) {
            Check.same("setDelay(" + delay + ")", x.setDelay(delay), previous);
            previous = delay;
        }
        Check.sentence("the delay, 1 to 5");
        Check.refuses("the delay 0", Check.ARGUMENT, () -> x.setDelay(0));
        Check.refuses("the delay 6", Check.ARGUMENT, () -> x.setDelay(6));
        Check.sentence("Sets the delay of messages that are sent from now on.");
        Face y = new Real();
        y.setDelay(3);
        y.tick(8);
        y.setDelay(1);
        Check.same("sent before", y.message(0, 4), 11);
        y.tick(3);
        Check.same("sent from now on", y.message(0, 4), 12);
    }

    private static void setLink() {
        Check.sentence("Returns whether it was cut.");
        Face x = new Real();
        for (int one = 0; one < 5; one++) {
            for (int other = 0; other < 5; other++) {
                if (one != other) {
                    Check.holds("joined at first", !x.setLink(one, other, false));
                    Check.holds("joined", !x.setLink(one, other, true));
                    Check.holds("cut", x.setLink(other, one, true));
                    Check.holds("cut still", x.setLink(other, one, false));
                    Check.holds("joined again", !x.setLink(one, other, false));
                }
            }
        }
        Face y = new Real();
        y.setLink(0, 4, true);
        for (int one = 0; one < 5; one++) {
            for (int other = 0; other < one; other++) {
                Check.same("the link of " + one + " and " + other,
                        y.setLink(one, other, false) ? 1 : 0, one == 4 && other == 0 ? 1 : 0);
            }
        }
    }

    private static void setLinkLater() {
        Check.sentence("Messages that were sent already are not affected.");
        Face x = new Real();
        x.tick(8);
        x.setLink(0, 1, true);
        x.setLink(0, 2, true);
        Check.same("messages", x.messages(), 2);
        x.tick(1);
        Check.same("received", x.node(1, 3), 0);
        Check.same("replies are lost", x.messages(), 0);
        x.setLink(0, 1, false);
        Check.same("for ever", x.messages(), 0);
    }

    private static void crash() {
        Check.sentence("Lets a node crash: it is down and a follower.");
        Face x = new Real();
        for (int n = 0; n < 5; n++) {
            Check.same("crash of a follower", x.crash(n), 0);
            Check.node("down", x, n, 0, 0, 0, -1);
        }
        Face y = new Real();
        y.tick(8);
        Check.same("crash of a candidate", y.crash(0), 1);
        Check.node("down", y, 0, 0, 0, 1, 0);
        Face z = new Real();
        z.tick(14);
        Check.same("crash of a leader", z.crash(0), 1);
        Check.node("down", z, 0, 0, 0, 1, 0, 1, 1);
    }

    private static void restart() {
        Check.sentence("Restarts a node that is down. Term, vote, log and snapshot are what they were; its"
                + " commit index is that of its snapshot, and its timer is reset.");
        Face x = new Real();
        x.crash(4);
        Check.same("restart of a new one", x.restart(4), 0);
        Check.node("as at first", x, 4, 1, 0, 0, -1, 0, 0, 0, 0, 0, 13, 0, 7, -1, 0);
        x.tick(14);
        x.submit(0, 5);
        x.tick(4);
        x.pack(0);
        x.submit(0, 6);
        x.crash(0);
        Check.same("restart of a leader", x.restart(0), 3);
        Check.node("a follower", x, 0, 1, 0, 1, 0, 2, 3, 1, 2, 5, 9, 0, 7, -1, 0);
        Check.log("its log", x, 0, "[2] 1:6");
        Face y = new Real();
        y.tick(9);
        y.crash(1);
        y.restart(1);
        Check.node("its vote", y, 1, 1, 0, 1, 0, 0, 0, 0, 0, 0, 12);
    }

    private static void submit() {
        Check.sentence("Returns the index of the entry.");
        Face x = new Real();
        Scenes.alone(x);
        for (int i = 2; i <= 24; i++) {
            Check.same("submit", x.submit(0, i), i);
            Check.same("committed", x.node(0, 4), i);
        }
        Check.refuses("the 25th", Check.UNSUPPORTED, () -> x.submit(0, 1));
        x.pack(0);
        Check.same("the first one after a snapshot", x.submit(0, 1), 25);
        Face y = Check.started(16, 0);
        y.tick(13);
        Check.same("submit to the last node", y.submit(4, 1), 2);
    }

    private static void submitLater() {
        Check.sentence("It is sent when the leader sends the next time.");
        Face x = new Real();
        Scenes.three(x);
        x.submit(0, 7);
        Check.same("not at once", x.messages(), 0);
        x.tick(1);
        Check.message("with the next ones", x, 0, 2, 0, 1, 1, 16, 1, 1);
    }

    private static void reconfigure() {
        Check.sentence("Submits a change of members to a leader, which appends a joint configuration of its"
                + " present group and the new one, and commits.");
        for (int members = 1; members < 32; members++) {
            Face x = new Real();
            Scenes.three(x);
            Check.same("reconfigure(0, " + members + ")", x.reconfigure(0, members), 2);
            Check.same("its value", x.entry(0, 2, 2), 32 * 7 + members);
            Check.same("the old group", x.node(0, 10), 7);
            Check.same("the new group", x.node(0, 11), members);
        }
        Face x = Check.started(16, 0);
        x.tick(13);
        Check.same("of the last node", x.reconfigure(4, 16), 2);
        Check.same("committed at once", x.node(4, 4), 2);
        x.submit(4, 1);
        Check.same("and again", x.reconfigure(4, 1), 5);
    }

    private static void pack() {
        Check.sentence("Returns the number of entries that are removed.");
        Face x = new Real();
        Check.same("none", x.pack(0), 0);
        Check.same("none of the last node", x.pack(4), 0);
        Scenes.alone(x);
        Check.same("one", x.pack(0), 1);
        Check.same("none is left", x.pack(0), 0);
        Check.fill(x, 0, 25);
        Check.same("24", x.pack(0), 24);
        Check.node("the snapshot", x, 0, 1, 2, 1, 0, 25, 25, 1, 25);
        Check.sentence("its entries up to there are removed from its log");
        Face y = new Real();
        Scenes.three(y);
        y.submit(0, 2);
        y.tick(3);
        y.submit(0, 3);
        Check.same("but for the last one", y.pack(0), 2);
        Check.log("which stays", y, 0, "[2] 1:3");
        Check.same("a follower that does not know of the second one", y.pack(1), 1);
        Check.log("which stays", y, 1, "[1] 1:2");
    }

    private static void read() {
        Check.sentence("Reads from a leader.");
        Face x = new Real();
        Scenes.alone(x);
        Check.same("nothing", x.read(0), 0);
        x.submit(0, MIN);
        Check.same("the least", x.read(0), MIN);
        x.submit(0, MAX);
        Check.same("with overflow", x.read(0), 31 * MIN + MAX);
    }

    private static void node() {
        Check.sentence("0: 1 if it is up, otherwise 0; 1 its role; 2 its term; 3 its vote, -1 for none; 4"
                + " its commit index; 5 its last index; 6 its last term; 7 the index of its snapshot; 8 its"
                + " result; 9 its timer; 10 the old group of its configuration, 0 if it is not joint; 11"
                + " the new group, or the only one; 12 its lease, -1 if it is no leader; 13 the set of its"
                + " voters, including itself, 0 if it is no candidate");
        Face x = new Real();
        Check.node("new", x, 0, 1, 0, 0, -1, 0, 0, 0, 0, 0, 8, 0, 7, -1, 0);
        x.tick(8);
        Check.node("a candidate", x, 0, 1, 1, 1, 0, 0, 0, 0, 0, 0, 9, 0, 7, -1, 1);
        x.tick(6);
        x.submit(0, 5);
        x.tick(3);
        x.pack(0);
        x.submit(0, 6);
        x.reconfigure(0, 24);
        Check.node("a leader", x, 0, 1, 2, 1, 0, 2, 4, 1, 2, 5, 1, 7, 24, -1, 0);
        x.crash(0);
        Check.node("down", x, 0, 0, 0, 1, 0, 2, 4, 1, 2, 5, 1, 7, 24, -1, 0);
        Check.node("the last node", x, 4, 1, 0, 0, -1, 0, 0, 0, 0, 0, 13, 0, 7, -1, 0);
        Face y = Check.started(31, 0);
        y.tick(8);
        y.crash(2);
        y.crash(3);
        y.crash(4);
        y.tick(2);
        Check.same("voters", y.node(0, 13), 3);
        y.crash(0);
        Check.same("of no candidate", y.node(0, 13), 0);
    }

    private static void noted() {
        Check.sentence("Returns what a leader has noted about another node.");
        Face x = Check.started(16, 0);
        x.tick(13);
        for (int other = 0; other < 4; other++) {
            Check.same("the next index", x.noted(4, other, 0), 1);
            Check.same("the match", x.noted(4, other, 1), 0);
            Check.same("the echo", x.noted(4, other, 2), -1);
        }
        Face y = new Real();
        Scenes.three(y);
        for (int other = 1; other < 5; other++) {
            Check.same("the next index", y.noted(0, other, 0), other < 3 ? 2 : 1);
            Check.same("the match", y.noted(0, other, 1), other < 3 ? 1 : 0);
            Check.same("the echo", y.noted(0, other, 2), other < 3 ? 12 : -1);
        }
    }

    private static void entry() {
        Check.sentence("0 its term, 1 its kind, 2 its value");
        Face x = new Real();
        Scenes.three(x);
        x.submit(0, -9);
        x.tick(3);
        x.pack(0);
        Check.fill(x, 0, 26);
        Check.refuses("the last one in the snapshot", Check.INDEX, () -> x.entry(0, 2, 0));
        for (int index = 3; index <= 26; index++) {
            Check.same("the term", x.entry(0, index, 0), 1);
            Check.same("the kind", x.entry(0, index, 1), 0);
            Check.same("the value", x.entry(0, index, 2), index);
        }
        Check.refuses("behind the last one", Check.INDEX, () -> x.entry(0, 27, 0));
        Check.same("of a follower", x.entry(2, 2, 2), -9);
        x.crash(2);
        Check.same("of a node that is down", x.entry(2, 1, 1), 3);
    }

    private static void messages() {
        Check.sentence("Returns the number of messages.");
        Face x = new Real();
        Check.same("none", x.messages(), 0);
        x.tick(8);
        Check.same("two", x.messages(), 2);
        Face y = new Real();
        Scenes.crowd(y);
        Check.same("forty", y.messages(), 40);
        y.tick(1);
        Check.same("no more", y.messages(), 40);
        Check.loseAll(y);
        Check.same("none", y.messages(), 0);
    }

    private static void message() {
        Check.sentence("0 its kind; 1 the sender; 2 the receiver; 3 the term; 4 the due time; 5 the last"
                + " index, the previous index, the index of the snapshot or of the answer, 0 for kind 1; 6"
                + " for kind 1 and 3, 1 if it is granted or tells success, otherwise 0; for kind 2 the"
                + " number of entries; for kind 0 the last term; for kind 4 the term of the snapshot");
        Face x = new Real();
        Scenes.crowd(x);
        Check.message("the first one", x, 0, 2, 0, 1, 4, 152, 5, 4);
        Check.message("a failure", x, 4, 3, 1, 0, 4, 152, 9, 0);
        Check.message("the last one", x, 39, 2, 0, 4, 4, 156, 1, 4);
        Face y = new Real();
        Scenes.three(y);
        Check.fill(y, 0, 5);
        y.crash(2);
        y.tick(2);
        Check.message("a success", y, 0, 3, 1, 0, 1, 17, 5, 1);
        y.tick(1);
        y.pack(0);
        y.tick(1);
        Check.message("a snapshot", y, 1, 4, 0, 2, 1, 19, 5, 1);
        y.tick(2);
        y.crash(0);
        y.restart(2);
        Check.loseAll(y);
        y.tick(8);
        Check.message("a request", y, 1, 0, 2, 1, 2, 29, 1, 1);
        y.tick(1);
        Check.message("a refusal", y, 0, 1, 1, 2, 2, 30, 0, 0);
        Face z = new Real();
        z.tick(9);
        Check.message("a vote", z, 1, 1, 2, 0, 1, 10, 0, 1);
    }

    private static void lose() {
        Check.sentence("Returns the number of messages that remain.");
        Face x = new Real();
        Scenes.crowd(x);
        Check.same("the last one", x.lose(39), 39);
        Check.refuses("it is gone", Check.INDEX, () -> x.lose(39));
        Check.same("the first one", x.lose(0), 38);
        Check.message("the next one", x, 0, 2, 0, 2, 4, 152, 5, 4);
        Check.same("lost", x.statistic(2), 86);
        for (int left = 37; left >= 0; left--) {
            Check.same("lose(0)", x.lose(0), left);
        }
        Check.refuses("none is left", Check.INDEX, () -> x.lose(0));
        Check.same("lost", x.statistic(2), 124);
    }

    private static void leader() {
        Check.sentence("Returns the leader with the greatest term among the nodes that are up.");
        for (int n = 0; n < 5; n++) {
            Face x = Check.started(1 << n, 0);
            x.tick(15);
            Check.same("the only one", x.leader(), n);
            x.crash(n);
            Check.refuses("down", Check.NO_ELEMENT, () -> x.leader());
            int node = n;
            x.restart(node);
            Check.refuses("a follower", Check.NO_ELEMENT, () -> x.leader());
        }
    }

    private static void leaderOfTheGreatestTerm() {
        Check.sentence("Returns the leader with the greatest term among the nodes that are up.");
        Face x = Scenes.twoLeaders(1, 2);
        Check.same("the term 1", x.node(0, 2), 1);
        Check.same("the term 2", x.node(2, 2), 2);
        Check.same("the later one", x.leader(), 2);
        x.crash(2);
        Check.same("the earlier one", x.leader(), 0);
        x.crash(0);
        Check.refuses("none", Check.NO_ELEMENT, () -> x.leader());
        Face y = Check.started(19, 3);
        y.tick(12);
        Check.same("the last node", y.leader(), 4);
        y.setLink(0, 4, true);
        y.setLink(1, 4, true);
        y.tick(30);
        Check.same("it leads still", y.node(4, 1), 2);
        Check.holds("a lesser node with a greater term", y.leader() < 2);
    }

    private static void winner() {
        Check.sentence("Returns the node that has won in a term.");
        Face x = Check.started(3, 0);
        x.crash(1);
        for (int i = 0; i < 99; i++) {
            x.tick(x.node(0, 9));
        }
        Check.same("the term", x.node(0, 2), 99);
        Check.refuses("before", Check.NO_ELEMENT, () -> x.winner(99));
        x.restart(1);
        x.tick(2);
        Check.same("the last term", x.winner(99), 0);
        Check.refuses("98", Check.NO_ELEMENT, () -> x.winner(98));
        x.crash(0);
        x.crash(1);
        x.restart(0);
        x.tick(x.node(0, 9));
        x.restart(1);
        x.tick(2);
        Check.node("it has won again", x, 0, 1, 2, 100, 0);
        Check.refuses("100", Check.NO_ELEMENT, () -> x.winner(100));
        Check.same("99", x.winner(99), 0);
        Face y = Check.started(16, 0);
        y.tick(13);
        Check.same("the last node", y.winner(1), 4);
        Check.refuses("0", Check.NO_ELEMENT, () -> y.winner(0));
    }

    private static void alike() {
        Check.sentence("Returns the index, or -1 if the index of the snapshot of one is greater than the last"
                + " index of the other.");
        Face x = new Real();
        Check.same("nothing at all", x.alike(0, 4), 0);
        Check.same("nothing and itself", x.alike(4, 4), 0);
        Scenes.three(x);
        x.crash(2);
        x.submit(0, 2);
        x.tick(6);
        both(x, "one is a beginning of the other", 0, 2, 1);
        both(x, "the same", 0, 1, 2);
        both(x, "one is empty", 0, 3, 0);
        x.pack(1);
        both(x, "a snapshot and entries", 0, 1, 2);
        both(x, "a snapshot behind the last index", 1, 2, -1);
        x.pack(0);
        both(x, "two snapshots", 0, 1, 2);
        both(x, "itself", 0, 0, 2);
        Face y = new Real();
        Scenes.three(y);
        y.crash(2);
        y.pack(1);
        y.submit(0, 2);
        both(y, "a snapshot at the last index", 1, 2, 1);
        both(y, "and before it", 1, 0, 1);
        both(y, "and behind it", 1, 3, -1);
    }

    private static void both(Face x, String when, int one, int other, int due) {
        Check.same(when, x.alike(one, other), due);
        Check.same(when + ", the other way round", x.alike(other, one), due);
    }

    private static void alikeByTerms() {
        Check.sentence("the greatest index that is not less than those of both snapshots and not greater than"
                + " both last indexes, such that both logs have entries with the same terms at all indexes"
                + " after both snapshots up to it");
        Face x = Scenes.twoLeaders(4, 3);
        both(x, "other terms from 2 on", 0, 2, 1);
        both(x, "the same terms", 1, 2, 3);
        x.pack(2);
        both(x, "behind the other terms", 0, 2, 3);
        x.pack(0);
        both(x, "two snapshots", 0, 2, 3);
        Face y = Scenes.twoLeaders(4, 3);
        y.pack(0);
        both(y, "a snapshot before the other terms", 0, 2, 1);
        Face z = Scenes.twoLeaders(4, 4);
        z.pack(2);
        z.submit(2, 5);
        both(z, "a snapshot and an entry of another term", 0, 2, 4);
    }

    private static void statistic() {
        Check.sentence("0 the time; 1 the messages that were sent, lost ones included; 2 the messages that"
                + " were lost, at once, by lose, or because the receiver was down; 3 how often a node stood"
                + " for election; 4 how often one won; 5 how many entries were removed because the term was"
                + " another one; 6 the snapshots that were received and became those of their receivers");
        Face x = new Real();
        statistics(x, 0, 0, 0, 0, 0, 0, 0);
        x.setLink(0, 1, true);
        x.tick(8);
        statistics(x, 8, 2, 1, 1, 0, 0, 0);
        x.lose(0);
        statistics(x, 8, 2, 2, 1, 0, 0, 0);
        x.tick(3);
        statistics(x, 11, 4, 3, 2, 0, 0, 0);
        x.crash(2);
        x.tick(1);
        statistics(x, 12, 4, 4, 2, 0, 0, 0);
        Face y = Scenes.twoLeaders(4, 3);
        int sent = y.statistic(1);
        statistics(y, 26, sent, y.statistic(2), 2, 2, 0, 0);
        y.setLink(0, 2, false);
        y.tick(2);
        statistics(y, 28, sent + 7, y.statistic(2), 2, 2, 4, 0);
        y.crash(1);
        y.crash(0);
        y.restart(0);
        y.submit(2, 1);
        y.tick(9);
        y.pack(2);
        y.restart(1);
        y.tick(9);
        Check.same("entries that were removed", y.statistic(5), 4);
        Check.same("snapshots", y.statistic(6), 1);
    }

    private static void statistics(Face x, int... due) {
        for (int what = 0; what < due.length; what++) {
            Check.same("statistic(" + what + ") at " + due[0], x.statistic(what), due[what]);
        }
    }

    private static void share() {
        Check.sentence("the sum of the commit indexes of all members of the configuration of a node that are"
                + " up, as a double, divided by the sum of their last indexes");
        Face x = new Real();
        x.tick(10);
        Check.same("the divisor 1", x.share(0), 0);
        Check.same("the same members for a node that is none", x.share(4), 0);
        x.tick(2);
        Check.same("one of three", x.share(0), 1 / 3.0);
        x.tick(2);
        Check.same("all", x.share(0), 1);
        x.submit(0, 1);
        x.submit(0, 2);
        Check.same("three of five", x.share(1), 3 / 5.0);
        x.crash(1);
        Check.same("two of four", x.share(1), 2 / 4.0);
        x.crash(2);
        Check.same("one of three", x.share(1), 1 / 3.0);
        x.crash(0);
        Check.refuses("nothing of nothing", Check.ARITHMETIC, () -> x.share(1));
    }

    private static void shareOfMembers() {
        Check.sentence("all members of the configuration of a node that are up");
        Face x = new Real();
        Scenes.three(x);
        x.reconfigure(0, 24);
        x.tick(2);
        x.submit(0, 3);
        Check.same("both groups", x.share(0), 5 / 11.0);
        Check.same("those of a node with the joint configuration", x.share(1), 5 / 11.0);
        x.crash(3);
        Check.same("a member that is down", x.share(0), 4 / 9.0);
        x.crash(1);
        Check.same("a member that is down", x.share(0), 3 / 7.0);
        Face y = new Real();
        Scenes.three(y);
        y.reconfigure(0, 24);
        Check.same("those of a node that does not know of it", y.share(1), 3 / 4.0);
        Check.same("and of one that does", y.share(0), 3 / 4.0);
        y.crash(0);
        y.crash(1);
        y.crash(2);
        Check.refuses("members without entries", Check.ARITHMETIC, () -> y.share(0));
    }
}
