/** Boundaries of the description: messages, timers and ticks. */
public final class MessageEdges {
    private static final int MAX = Integer.MAX_VALUE;
    private static final int MIN = Integer.MIN_VALUE;

    private MessageEdges() { }

    public static void main(String[] args) {
        dueTimes();
        cutLinks();
        bothDirections();
        fortyMessages();
        roomByTurns();
        numbers();
        timeouts();
        resetTimers();
        time();
        orderOfReceiving();
        notDueYet();
        receiversThatAreDown();
        timersOfLeaders();
        timersOfMembers();
        timersOfOthers();
        Check.end("MessageEdges");
    }

    private static void dueTimes() {
        Check.sentence("It is due at the time of sending plus the delay, a number from 1 to 5, at first 1.");
        for (int delay = 1; delay <= 5; delay++) {
            Face x = new Real();
            Check.same("at first", x.setDelay(delay), 1);
            x.crash(1);
            x.crash(2);
            x.tick(8);
            Check.same("the due time", x.message(0, 4), 8 + delay);
            for (int i = 1; i < delay; i++) {
                x.tick(1);
                Check.same("messages before they are due", x.messages(), 2);
            }
            x.tick(1);
            Check.same("messages when they are due", x.messages(), 0);
            Check.same("the time", x.statistic(0), 8 + delay);
        }
        Face x = new Real();
        Check.refuses("the delay 0", Check.ARGUMENT, () -> x.setDelay(0));
        Check.refuses("the delay 6", Check.ARGUMENT, () -> x.setDelay(6));
        Check.same("the delay is as before", x.setDelay(1), 1);
    }

    private static final String LOST =
            "A message that is sent over a link that is cut, or while there are 40 messages, is lost"
            + " at once.";

    private static void cutLinks() {
        Check.sentence(LOST);
        for (int other = 1; other < 5; other++) {
            Face x = Check.started(31, 0);
            x.setLink(0, other, true);
            x.tick(8);
            Check.same("messages", x.messages(), 3);
            for (int i = 0; i < 3; i++) {
                Check.holds("none is for " + other, x.message(i, 2) != other);
            }
            Check.same("sent", x.statistic(1), 4);
            Check.same("lost", x.statistic(2), 1);
            x.setLink(0, other, false);
            x.tick(1);
            Check.same("it stays lost", x.node(other, 2), 0);
        }
    }

    private static void bothDirections() {
        Check.sentence("A link connects two nodes in both directions.");
        for (int turn = 0; turn < 2; turn++) {
            Face x = new Real();
            x.setLink(turn, 1 - turn, true);
            Check.holds("cut", x.setLink(1 - turn, turn, true));
            x.tick(8);
            Check.same("a message for 2 alone", x.message(0, 2), 2);
            Check.same("messages", x.messages(), 1);
            Face y = new Real();
            y.tick(8);
            y.setLink(turn * 2, 2 - turn * 2, true);
            y.tick(1);
            Check.same("one that was sent before arrives", y.node(2, 3), 0);
            Check.same("its reply is lost", y.messages(), 1);
            Check.same("the reply of the other node", y.message(0, 1), 1);
        }
    }

    /** Twelve messages are answered by one each, and then the leader sends four. */
    private static void fortyMessages() {
        Check.sentence(LOST);
        for (int before = 35; before <= 40; before++) {
            Face x = new Real();
            Scenes.crowd(x);
            Check.same("there are 40", x.messages(), 40);
            while (x.messages() > before) {
                x.lose(x.messages() - 1);
            }
            int sent = x.statistic(1);
            int lost = x.statistic(2);
            x.tick(1);
            Check.same("messages after " + before, x.messages(), Math.min(40, before + 4));
            Check.same("sent after " + before, x.statistic(1) - sent, 16);
            Check.same("lost after " + before, x.statistic(2) - lost, Math.max(0, before + 4 - 40));
        }
    }

    private static void roomByTurns() {
        Check.sentence("Then the messages that are due, in the order of their numbers at this moment,"
                + " are removed one after the other and received by their receivers, unless these are"
                + " down; messages that are sent thereby are not due yet.");
        Face x = new Real();
        Scenes.crowd(x);
        x.setLink(0, 1, true);
        int lost = x.statistic(2);
        x.tick(1);
        Check.same("three by the link in answering, one by it in sending, none by the number",
                x.statistic(2) - lost, 4);
        Check.same("with room by the three", x.messages(), 40);
        Face y = new Real();
        Scenes.crowd(y);
        y.crash(3);
        int before = y.statistic(2);
        y.tick(1);
        Check.same("two for the one that is down, two by the number", y.statistic(2) - before, 4);
        Check.same("with room by the two", y.messages(), 40);
    }

    private static void numbers() {
        Check.sentence("The messages are numbered from 0 in the order of sending.");
        Face x = Check.started(31, 0);
        x.setDelay(5);
        x.tick(8);
        x.setDelay(1);
        for (int i = 0; i < 4; i++) {
            Check.message("the order of sending", x, i, 0, 0, i + 1, 1, 13);
        }
        Check.refuses("number -1", Check.INDEX, () -> x.message(-1, 0));
        Check.refuses("number 4", Check.INDEX, () -> x.message(4, 0));
        x.tick(2);
        Check.same("another one stands", x.messages(), 8);
        Check.message("the earlier one", x, 3, 0, 0, 4, 1, 13);
        Check.message("the later one, which is due before", x, 4, 0, 3, 0, 1, 11);
    }

    private static int timeout(int seed, int term, int node) {
        long x = (seed + 5L * term + node) * 2654435769L & 0xFFFFFFFFL;
        return 8 + (int) (x >> 20 & 7);
    }

    private static void timeouts() {
        Check.sentence("The timeout of a node n in the term t is 8 + (x AND 7), where x is"
                + " (seed + 5 * t + n) * -1640531527, with overflow, shifted right by 20 without sign.");
        int least = MAX;
        int greatest = 0;
        for (int seed : new int[] {0, 1, 9, 17, -1, -2, -5, 1 << 20, 987654321, -987654321, MAX, MAX - 1,
            MAX - 4, MIN, MIN + 1}) {
            Face x = Check.started(31, seed);
            for (int n = 0; n < 5; n++) {
                Check.same("the timeout of " + n + " with " + seed, x.node(n, 9), timeout(seed, 0, n));
                least = Math.min(least, x.node(n, 9));
                greatest = Math.max(greatest, x.node(n, 9));
            }
        }
        Check.same("the least", least, 8);
        Check.same("the greatest", greatest, 15);
    }

    /** A node that is alone of two stands again and again. */
    private static void resetTimers() {
        Check.sentence("To reset the timer of a node means to set it to the timeout of the node in its term.");
        for (int seed : new int[] {0, 77, MAX - 12, MIN}) {
            Face x = Check.started(3, seed);
            x.crash(1);
            for (int term = 1; term <= 20; term++) {
                x.tick(x.node(0, 9));
                Check.same("the term", x.node(0, 2), term);
                Check.same("in the term " + term + " with " + seed, x.node(0, 9), timeout(seed, term, 0));
            }
            x.tick(1);
            x.crash(0);
            x.restart(0);
            Check.same("after a restart", x.node(0, 9), timeout(seed, 20, 0));
        }
    }

    private static void time() {
        Check.sentence("In a tick, the time increases by 1.");
        Face x = new Real();
        Check.same("at first", x.statistic(0), 0);
        Check.same("after one", x.tick(1), 1);
        Check.same("after another", x.tick(1), 2);
        Check.same("after sixty more", x.tick(60), 62);
    }

    /** The request of node 0 was sent at 8 with a delay of 4, that of node 1 at 11 with one of 1. */
    private static void orderOfReceiving() {
        Check.sentence("in the order of their numbers at this moment");
        Face x = new Real();
        x.setDelay(4);
        x.tick(10);
        x.setDelay(1);
        x.tick(1);
        Check.message("the request of 0", x, 1, 0, 0, 2, 1, 12);
        Check.message("the request of 1", x, 3, 0, 1, 2, 1, 12);
        x.tick(1);
        Check.same("the first one gets the vote", x.node(2, 3), 0);
        Face y = new Real();
        y.setDelay(5);
        y.tick(10);
        y.setDelay(1);
        y.tick(2);
        Check.same("one that is due earlier is received earlier", y.node(2, 3), 1);
        y.tick(1);
        Check.same("the other one comes too late", y.node(2, 3), 1);
    }

    private static void notDueYet() {
        Check.sentence("messages that are sent thereby are not due yet");
        Face x = new Real();
        x.tick(9);
        Check.same("the replies wait", x.messages(), 2);
        Check.message("sent in this tick", x, 0, 1, 1, 0, 1, 10);
        Check.same("still a candidate", x.node(0, 1), 1);
        x.tick(1);
        Check.same("in the next one it wins", x.node(0, 1), 2);
    }

    private static void receiversThatAreDown() {
        Check.sentence("received by their receivers, unless these are down");
        Face x = new Real();
        x.tick(8);
        x.crash(1);
        x.tick(1);
        Check.node("nothing is received", x, 1, 0, 0, 0, -1);
        Check.same("one is lost", x.statistic(2), 1);
        Check.same("the other one is answered", x.messages(), 1);
        x.restart(1);
        x.tick(1);
        Check.same("it does not come again", x.node(1, 2), 0);
        Face y = new Real();
        y.tick(8);
        y.crash(1);
        y.restart(1);
        y.tick(1);
        Check.same("up again before it is due", y.node(1, 3), 0);
    }

    private static void timersOfLeaders() {
        Check.sentence("if it is a leader, its timer decreases by 1, and if it is 0 then, it becomes 3,"
                + " and the node sends to all other members");
        Face x = new Real();
        x.tick(10);
        int[] timers = {2, 1, 3, 2, 1, 3, 2, 1, 3};
        int[] sent = {6, 8, 10, 12, 12, 14, 16, 16, 18};
        for (int i = 0; i < timers.length; i++) {
            Check.same("the timer at " + (10 + i), x.node(0, 9), timers[i]);
            Check.same("what is sent at " + (10 + i), x.statistic(1), sent[i]);
            x.tick(1);
        }
        x.tick(2);
        Check.same("to all others", x.messages(), 2);
        Check.message("the first one", x, 0, 2, 0, 1, 1, 22);
        Check.message("the other one", x, 1, 2, 0, 2, 1, 22);
    }

    private static void timersOfMembers() {
        Check.sentence("if it is no leader and a member of its own configuration, its timer decreases by"
                + " 1, and if it is 0 then, the node stands for election");
        Face x = new Real();
        for (int i = 1; i < 8; i++) {
            x.tick(1);
            Check.node("no election at " + i, x, 0, 1, 0, 0, -1, 0, 0, 0, 0, 0, 8 - i);
        }
        x.tick(1);
        Check.node("an election at 8", x, 0, 1, 1, 1, 0, 0, 0, 0, 0, 0, 9);
        Face y = new Real();
        y.crash(1);
        y.crash(2);
        y.tick(16);
        Check.node("a candidate counts down", y, 0, 1, 1, 1, 0, 0, 0, 0, 0, 0, 1);
        y.tick(1);
        Check.node("and stands again", y, 0, 1, 1, 2, 0, 0, 0, 0, 0, 0, 10);
        Check.same("a node that is down does not", y.node(1, 9), 11);
    }

    private static void timersOfOthers() {
        Check.sentence("if it is no leader and a member of its own configuration");
        Face x = new Real();
        x.tick(60);
        Check.node("no member", x, 3, 1, 0, 0, -1, 0, 0, 0, 0, 0, 10);
        Check.node("no member", x, 4, 1, 0, 0, -1, 0, 0, 0, 0, 0, 13);
        x.reconfigure(0, 14);
        x.tick(10);
        int timer = x.node(0, 9);
        Check.same("a leader that was removed follows", x.node(0, 1), 0);
        Check.holds("its own configuration is without it", x.node(0, 11) == 14 && x.node(0, 10) == 0);
        x.tick(10);
        Check.same("so it does not count down", x.node(0, 9), timer);
        x.setLink(3, 1, true);
        x.setLink(3, 2, true);
        x.tick(20);
        Check.holds("one that was added does", x.node(3, 2) > 1);
    }
}
