/** Runs of calls that lead to states that take some time to reach. */
final class Scenes {
    private Scenes() { }

    /** Node 0 leads the nodes 0, 1 and 2, who all have its blank entry and know that it is committed. */
    static void three(Face x) {
        x.tick(14);
    }

    /** Node 0 leads alone, and its blank entry is committed. */
    static void alone(Face x) {
        x.start(1, 0);
        x.tick(8);
    }

    /**
     * At the time 151 there are 40 messages on their way, 12 of them due in the next tick, each of
     * which will be answered by one, and the leader is about to send to four others.
     *
     * <p>The log of the leader differs from those of all others at most of its 24 indexes, so that
     * it goes back step by step, and sends again meanwhile, with a delay of 5.
     */
    static void crowd(Face x) {
        x.start(31, 0);
        x.crash(0);
        x.crash(3);
        x.tick(13);
        x.crash(4);
        fill(x, 1, 2);
        x.tick(24);
        x.crash(1);
        x.crash(2);
        x.restart(3);
        x.tick(21);
        x.restart(0);
        x.restart(4);
        x.tick(3);
        x.crash(0);
        fill(x, 3, 2);
        x.tick(24);
        x.crash(3);
        x.crash(4);
        x.restart(0);
        x.tick(10);
        x.restart(1);
        x.restart(2);
        x.tick(2);
        x.crash(1);
        x.crash(2);
        fill(x, 0, 3);
        x.crash(0);
        x.restart(0);
        x.tick(12);
        for (int n = 1; n < 5; n++) {
            x.restart(n);
        }
        x.tick(2);
        x.setDelay(5);
        x.tick(40);
    }

    /**
     * At 26, node 0 leads in the term 1 with this number of values of its own from index 2 on, and
     * node 2 in the term 2, with a blank entry and values up to this index, which node 1 has, too.
     * Node 0 is cut off; both leaders send at 27.
     */
    static void twoLeaders(Face x, int values, int last) {
        three(x);
        x.setLink(0, 1, true);
        x.setLink(0, 2, true);
        fillTo(x, 0, 2, 1 + values);
        x.tick(8);
        fillTo(x, 2, 3, last);
        x.tick(4);
    }

    static Face twoLeaders(int values, int last) {
        Face x = new Real();
        twoLeaders(x, values, last);
        Check.node("the earlier leader", x, 0, 1, 2, 1, 0, 1, 1 + values, 1);
        Check.node("the later leader", x, 2, 1, 2, 2, 2, last, last, 2);
        return x;
    }

    /** Submits values to a leader from this index on, until it has 24 entries. */
    static void fill(Face x, int leader, int from) {
        fillTo(x, leader, from, 24);
    }

    private static void fillTo(Face x, int leader, int from, int last) {
        for (int i = from; i <= last; i++) {
            x.submit(leader, i);
        }
    }
}
