/** Promises 23 to 28: texts, scripts, and what is saved. */
public final class TextTests {
    private TextTests() { }

    public static void main(String[] args) {
        promise23();
        promise24();
        promise24Errors();
        promise24Refused();
        promise24Stops();
        promise25();
        promise26();
        promise27And28();
        promise28StaysSaved();
        promise28JointSnapshot();
        promise28InEachState();
        Check.end("TextTests");
    }

    private static void promise23() {
        QuorumLog x = new QuorumLog();
        char[] strange = {0, ' ', 'z', (char) 255, (char) 256, Character.MAX_VALUE};
        for (int i = 1; i <= 80; i++) {
            Check.same("feed", x.feed(strange[i % strange.length]), i);
        }
        Check.refuses("a full buffer", Check.STATE, () -> x.feed('a'));
        Check.refuses("still full", Check.STATE, () -> x.feed(';'));
        Check.same("perform empties it", x.perform(), -100);
        Check.same("feed again", x.feed('a'), 1);
    }

    private static void promise24() {
        QuorumLog x = new QuorumLog();
        Check.same("tick", Check.perform(x, "tick 14;"), 1);
        Check.same("the time", x.statistic(0), 14);
        Check.same("put", Check.perform(x, "put 0,999;put 0,7;"), 2);
        Check.log("after put", x, 0, "1:-! 1:999 1:7");
        Check.same("crash and restart", Check.perform(x, "crash 1;restart 1;crash 2;"), 3);
        Check.same("up", x.node(1, 0), 1);
        Check.same("its commit index", x.node(1, 4), 0);
        Check.same("down", x.node(2, 0), 0);
        Check.same("pack", Check.perform(x, "pack 0;"), 1);
        Check.log("after pack", x, 0, "[1] 1:999 1:7");
        Check.same("cut and join", Check.perform(x, "cut 0,1;cut 3,4;join 4,3;"), 3);
        Check.holds("cut", x.setLink(1, 0, false));
        Check.holds("joined", !x.setLink(3, 4, false));
        Check.same("zeros at the beginning", Check.perform(x, "tick 001;tick 060;pack 000;"), 3);
        Check.same("the time", x.statistic(0), 75);
        Check.same("a whole buffer",
                Check.perform(x, "tick 1;tick 1;tick 1;tick 1;tick 1;tick 1;tick 1;tick 1;tick 1;tick 1;tick 001;"),
                11);
        Check.same("the time", x.statistic(0), 86);
        Check.same("the buffer is empty", x.feed('t'), 1);
    }

    private static void promise24Errors() {
        QuorumLog x = new QuorumLog();
        Object[][] errors = {
            {"", 0}, {";", 0}, {" ", 0}, {"1", 0}, {"Tick 1;", 0}, {"ti", 0}, {"tic 1;", 0},
            {"ticks 1;", 0}, {"tickcut 1;", 0}, {"tick", 4}, {"tick;", 4}, {"tick1;", 4},
            {"tick ", 5}, {"tick  1;", 5}, {"tick -1;", 5}, {"tick ;", 5}, {"tick 1", 6},
            {"tick 12", 7}, {"tick 123", 8}, {"tick 1234;", 8}, {"tick 1 ;", 6}, {"tick 1,2;", 6},
            {"tick 1; tick 1;", 7}, {"tick 1;;", 7}, {"tick 1;tick", 11}, {"tick 1;tack 1;", 7},
            {"tick 1;\n", 7}, {"cut 1;", 5}, {"cut 1,;", 6}, {"cut 1, 2;", 6}, {"cut 1,2", 7},
            {"cut 1,2,3;", 7}, {"cut 1,2345;", 9}, {"cut ,2;", 4}, {"join 0;", 6}, {"put 0;", 5},
            {"put 0,-1;", 6}, {"put", 3}, {"crash 0,1;", 7}, {"restart 0,1;", 9}, {"pack 0,1;", 6},
            {"tick" + (char) 233 + "1;", 4}, {"" + (char) 0x174, 0}, {"tick 1" + (char) 0x13B, 6},
            {"crash 1;restart 1;join 12;", 25}, {"TICK 1;", 0}, {"{", 0}, {"`", 0}, {"tick :;", 5},
            {"tick /;", 5},
        };
        for (Object[] error : errors) {
            int due = -100 - (Integer) error[1];
            Check.same("perform of '" + error[0] + "'", Check.perform(x, (String) error[0]), due);
        }
        Check.same("none was performed", x.statistic(0), 0);
        Check.same("the buffer is empty", x.feed('t'), 1);
        Check.same("up", x.node(1, 0), 1);
    }

    private static void promise24Refused() {
        String[] scripts = {
            "tick 0;", "tick 61;", "tick 999;", "crash 5;", "crash 999;", "restart 0;", "restart 5;",
            "cut 1,1;", "cut 5,1;", "cut 1,5;", "join 2,2;", "join 0,9;", "join 6,0;", "put 0,1;",
            "put 5,1;", "pack 5;", "crash 4;crash 4;", "crash 4;pack 4;", "crash 0;put 0,1;",
        };
        for (String script : scripts) {
            QuorumLog x = new QuorumLog();
            Check.feed(x, script);
            Check.refuses("perform of " + script, Check.UNSUPPORTED, () -> x.perform());
            Check.same("the buffer is empty after " + script, x.feed('t'), 1);
        }
        QuorumLog x = Check.started(1, 0);
        x.tick(16);
        for (int i = 2; i <= 24; i++) {
            Check.same("put", Check.perform(x, "put 0,1;"), 1);
        }
        Check.feed(x, "put 0,1;");
        Check.refuses("put to a full log", Check.UNSUPPORTED, () -> x.perform());
    }

    private static void promise24Stops() {
        QuorumLog x = new QuorumLog();
        Check.feed(x, "tick 3;crash 2;tick 4;cut 0,0;tick 5;crash 1;");
        Check.refuses("perform", Check.UNSUPPORTED, () -> x.perform());
        Check.same("the ones before stay performed", x.statistic(0), 7);
        Check.same("the ones before stay performed", x.node(2, 0), 0);
        Check.same("the ones after are not performed", x.node(1, 0), 1);
        Check.same("an error in the last one", Check.perform(x, "tick 3;crash 1;tick 5"), -121);
        Check.same("none is performed", x.statistic(0), 7);
        Check.same("none is performed", x.node(1, 0), 1);
    }

    private static void promise25() {
        QuorumLog x = Check.started(2, 0);
        for (int node : new int[] {-1, 5, Integer.MIN_VALUE, Integer.MAX_VALUE}) {
            Check.refuses("write(" + node + ")", Check.INDEX, () -> x.write(node));
        }
        Check.same("an empty log", x.write(1), 0);
        Check.refuses("has no text", Check.INDEX, () -> x.text(0));
        x.tick(12);
        x.submit(1, -8);
        x.submit(1, Integer.MIN_VALUE);
        x.submit(1, 0);
        x.reconfigure(1, 3);
        Check.log("a log", x, 1, "1:-! 1:-8! 1:-2147483648! 1:0! 1:J67");
        Check.same("its length", x.write(1), 36);
        x.tick(7);
        Check.log("a log", x, 1, "1:-! 1:-8! 1:-2147483648! 1:0! 1:J67! 1:C3");
        Check.same("pack", x.pack(1), 5);
        Check.log("a snapshot", x, 1, "[5] 1:C3");
        x.tick(6);
        x.pack(1);
        Check.log("a snapshot alone", x, 1, "[6]");
        Check.log("no snapshot", x, 4, "");
        x.submit(1, 1);
        x.crash(1);
        Check.log("a node that is down", x, 1, "[6] 1:1");
    }

    private static void promise26() {
        QuorumLog x = Check.started(2, 0);
        Check.refuses("no text yet", Check.INDEX, () -> x.text(0));
        x.tick(12);
        Check.refuses("no text yet", Check.INDEX, () -> x.text(0));
        Check.same("write", x.write(1), 4);
        String due = "1:-!";
        for (int i = 0; i < 4; i++) {
            Check.same("text(" + i + ")", x.text(i), due.charAt(i));
        }
        for (int i : new int[] {-1, 4, Integer.MIN_VALUE, Integer.MAX_VALUE}) {
            Check.refuses("text(" + i + ")", Check.INDEX, () -> x.text(i));
        }
        x.submit(1, 3);
        Check.same("the text is that which was written", x.text(3), '!');
        Check.refuses("write(9)", Check.INDEX, () -> x.write(9));
        Check.same("the text stays", x.text(3), '!');
        x.write(0);
        Check.refuses("the text is replaced", Check.INDEX, () -> x.text(0));
    }

    private static void promise27And28() {
        QuorumLog x = new QuorumLog();
        Check.refuses("nothing was saved", Check.STATE, () -> x.restore());
        x.setDelay(2);
        x.setLink(3, 4, true);
        x.tick(21);
        x.submit(x.leader(), 6);
        x.tick(1);
        int leader = x.leader();
        int[][] before = told(x);
        Check.holds("there are messages", x.messages() > 0);
        Check.same("save", x.save(), 22);
        x.feed('t');
        int length = x.write(leader);
        char last = x.text(length - 1);
        x.setDelay(5);
        x.setLink(3, 4, false);
        x.tick(40);
        x.crash(leader);
        x.tick(40);
        x.start(16, 99);
        x.tick(30);
        Check.same("restore", x.restore(), 22);
        same("restored", told(x), before);
        Check.same("the delay", x.setDelay(2), 2);
        Check.holds("the link", x.setLink(3, 4, true));
        Check.same("the winner", x.winner(1), leader);
        Check.refuses("the other winners", Check.NO_ELEMENT, () -> x.winner(2));
        Check.same("the input buffer is not restored", x.feed('i'), 2);
        Check.same("nor the text", x.text(length - 1), last);
        x.tick(20);
        int[][] later = told(x);
        x.restore();
        x.tick(20);
        same("the same goes on", told(x), later);
    }

    private static void promise28StaysSaved() {
        QuorumLog x = new QuorumLog();
        Check.same("save at 0", x.save(), 0);
        x.tick(30);
        Check.same("restore", x.restore(), 0);
        x.tick(9);
        Check.same("restore again", x.restore(), 0);
        x.tick(14);
        x.submit(0, 1);
        Check.same("save in its place", x.save(), 14);
        x.submit(0, 2);
        x.start(31, 1);
        Check.same("restore", x.restore(), 14);
        Check.log("what was saved", x, 0, "1:-! 1:1");
        x.submit(0, 3);
        x.tick(9);
        Check.same("restore", x.restore(), 14);
        Check.log("what was saved", x, 0, "1:-! 1:1");
        x.start(7, 12345);
        x.save();
        x.tick(30);
        int[][] later = told(x);
        x.start(7, 54321);
        x.restore();
        x.tick(30);
        same("the seed is restored", told(x), later);
    }

    /** A joint configuration in a snapshot, first in a message and then in a node. */
    private static void promise28JointSnapshot() {
        QuorumLog x = new QuorumLog();
        x.tick(14);
        x.reconfigure(0, 15);
        x.crash(3);
        x.tick(3);
        Check.same("the joint configuration is packed", x.pack(0), 2);
        Check.log("but not the next one", x, 0, "[2] 1:C15");
        x.restart(3);
        x.tick(1);
        Check.message("a snapshot", x, 2, 4, 0, 3, 1, 19, 2, 1);
        x.save();
        disturb(x, 30);
        x.restore();
        x.tick(1);
        Check.node("installed", x, 3, 1, 0, 1, -1, 2, 2, 1, 2, 0, 10, 7, 15, -1, 0);
        x.save();
        disturb(x, 30);
        x.restore();
        Check.node("restored", x, 3, 1, 0, 1, -1, 2, 2, 1, 2, 0, 10, 7, 15, -1, 0);
        x.tick(6);
        Check.log("with the next one", x, 3, "[2] 1:C15!");
    }

    /** One object is disturbed between a save and a restore, in each step of a long run. */
    private static void promise28InEachState() {
        QuorumLog x = Check.started(31, 0);
        QuorumLog y = Check.started(31, 0);
        int packed = 0;
        int voters = 0;
        for (int i = 1; i <= 300; i++) {
            step(x, i);
            y.save();
            disturb(y, i);
            y.restore();
            step(y, i);
            same("after the step " + i, told(y), told(x));
            packed += x.node(i % 5, 7) > 0 ? 1 : 0;
            voters += Integer.bitCount(x.node(0, 13)) == 2 ? 1 : 0;
        }
        Check.holds("snapshots were sent", x.statistic(6) > 1);
        Check.holds("entries were removed", x.statistic(5) > 1);
        Check.holds("there were snapshots", packed > 50);
        Check.holds("there were candidates with one voter more", voters > 0);
    }

    private static void step(QuorumLog x, int i) {
        int leader = 0;
        for (int n = 0; n < 5; n++) {
            leader = x.node(n, 1) == 2 && x.node(n, 2) > x.node(leader, 2) ? n : leader;
        }
        if (x.node(leader, 1) == 2 && x.node(leader, 5) - x.node(leader, 7) < 22) {
            x.submit(leader, i);
        }
        if (i % 29 == 0) {
            x.setLink(leader, (leader + 1) % 5, i % 2 == 0);
            x.setLink(leader, (leader + 2) % 5, i % 2 == 0);
            x.setLink(leader, (leader + 3) % 5, i % 2 == 0);
        }
        if (i % 23 == 0 && x.node(leader, 0) == 1) {
            x.pack(leader);
        }
        if (i % 37 == 0 && x.node((leader + 1) % 5, 0) == 1) {
            x.crash((leader + 1) % 5);
        }
        if (i % 67 == 0 && x.node(leader, 0) == 1) {
            x.crash(leader);
        }
        for (int n = 0; n < 5 && i % 29 == 0; n++) {
            if (x.node(n, 0) == 0) {
                x.restart(n);
            }
        }
        if (i % 11 == 0) {
            x.setDelay(1 + i % 3);
        }
        if (x.messages() > 0 && i % 3 == 0) {
            x.lose(i % x.messages());
        }
        x.tick(1);
    }

    private static void disturb(QuorumLog x, int i) {
        x.start(1 + i % 31, i);
        x.setDelay(1 + i % 5);
        x.tick(12);
        for (int k = 0; k < 20; k++) {
            for (int n = 0; n < 5; n++) {
                if (x.node(n, 1) == 2 && x.node(n, 5) < 24) {
                    x.submit(n, k);
                }
            }
        }
        x.tick(7);
        x.pack(i % 5);
        x.tick(1 + i % 3);
    }

    /** All numbers about the simulation. */
    private static int[][] told(QuorumLog x) {
        int[][] all = new int[12 + x.messages()][];
        for (int n = 0; n < 5; n++) {
            all[n] = new int[14];
            for (int what = 0; what < 14; what++) {
                all[n][what] = x.node(n, what);
            }
            int last = x.node(n, 5);
            all[5 + n] = new int[3 * last];
            for (int i = x.node(n, 7); i < last; i++) {
                for (int what = 0; what < 3; what++) {
                    all[5 + n][3 * i + what] = x.entry(n, i + 1, what);
                }
            }
        }
        all[10] = new int[7];
        for (int what = 0; what < 7; what++) {
            all[10][what] = x.statistic(what);
        }
        all[11] = new int[] {x.messages()};
        for (int m = 0; m < x.messages(); m++) {
            all[12 + m] = new int[7];
            for (int what = 0; what < 7; what++) {
                all[12 + m][what] = x.message(m, what);
            }
        }
        return all;
    }

    private static void same(String what, int[][] got, int[][] due) {
        Check.holds(what, java.util.Arrays.deepEquals(got, due));
    }
}
