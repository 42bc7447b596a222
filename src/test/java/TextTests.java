/** Promises 23 to 28: texts, scripts, and what is saved. */
public final class TextTests {
    private TextTests() { }

    public static void main(String[] args) {
        promise23();
        promise24();
        promise24Errors();
        promise24Refused();
        promise24Stops();
        promise25();
        promise26();
        promise27And28();
        promise28StaysSaved();
        promise28JointSnapshot();
        promise28InEachState();
        Check.end("TextTests");
    }

    private static void promise23() {
        Face x = new Real();
        char[] strange = {0, ' ', 'z', (char) 255, (char) 256, Character.MAX_VALUE};
        for (int i = 1; i <= 80; i++) {
            Check.same("feed", x.feed(strange[i % strange.length]), i);
        }
        Check.refuses("a full buffer", Check.STATE, () -> x.feed('a'));
        Check.refuses("still full", Check.STATE, () -> x.feed(';'));
        Check.same("perform empties it", x.perform(), -100);
        Check.same("feed again", x.feed('a'), 1);
    }

    private static void promise24() {
        Face x = new Real();
        Check.same("tick", Check.perform(x, "tick 14;"), 1);
        Check.same("the time", x.statistic(0), 14);
        Check.same("put", Check.perform(x, "put 0,999;put 0,7;"), 2);
        Check.log("after put", x, 0, "1:-! 1:999 1:7");
        Check.same("crash and restart", Check.perform(x, "crash 1;restart 1;crash 2;"), 3);
        Check.same("up", x.node(1, 0), 1);
        Check.same("its commit index", x.node(1, 4), 0);
        Check.same("down", x.node(2, 0), 0);
        Check.same("pack", Check.perform(x, "pack 0;"), 1);
        Check.log("after pack", x, 0, "[1] 1:999 1:7");
        Check.same("cut and join", Check.perform(x, "cut 0,1;cut 3,4;join 4,3;"), 3);
        Check.holds("cut", x.setLink(1, 0, false));
        Check.holds("joined", !x.setLink(3, 4, false));
        Check.same("zeros at the beginning", Check.perform(x, "tick 001;tick 060;pack 000;"), 3);
        Check.same("the time", x.statistic(0), 75);
        Check.same("a whole buffer",
                Check.perform(x, "tick 1;tick 1;tick 1;tick 1;tick 1;tick 1;tick 1;tick 1;tick 1;tick 1;tick 001;"),
                11);
        Check.same("the time", x.statistic(0), 86);
        Check.same("the buffer is empty", x.feed('t'), 1);
    }

    private static void promise24Errors() {
        Face x = new Real();
        Object[][] errors = {
            {"", 0}, {";", 0}, {" ", 0}, {"1", 0}, {"Tick 1;", 0}, {"ti", 0}, {"tic 1;", 0},
            {"ticks 1;", 0}, {"tickcut 1;", 0}, {"tick", 4}, {"tick;", 4}, {"tick1;", 4},
            {"tick ", 5}, {"tick  1;", 5}, {"tick -1;", 5}, {"tick ;", 5}, {"tick 1", 6},
            {"tick 12", 7}, {"tick 123", 8}, {"tick 1234;", 8}, {"tick 1 ;", 6}, {"tick 1,2;", 6},
            {"tick 1; tick 1;", 7}, {"tick 1;;", 7}, {"tick 1;tick", 11}, {"tick 1;tack 1;", 7},
            {"tick 1;\n", 7}, {"cut 1;", 5}, {"cut 1,;", 6}, {"cut 1, 2;", 6}, {"cut 1,2", 7},
            {"cut 1,2,3;", 7}, {"cut 1,2345;", 9}, {"cut ,2;", 4}, {"join 0;", 6}, {"put 0;", 5},
            {"put 0,-1;", 6}, {"put", 3}, {"crash 0,1;", 7}, {"restart 0,1;", 9}, {"pack 0,1;", 6},
            {"tick" + (char) 233 + "1;", 4}, {"" + (char) 0x174, 0}, {"tick 1" + (char) 0x13B, 6},
            {"crash 1;restart 1;join 12;", 25}, {"TICK 1;", 0}, {"{", 0}, {"`", 0}, {"tick :;", 5},
            {"tick /;", 5},
        };
        for (Object[] error : errors) {
            int due = -100 - (Integer) error[1];
            Check.same("perform of '" + error[0] + "'", Check.perform(x, (String) error[0]), due);
        }
        Check.same("none was performed", x.statistic(0), 0);
        Check.same("the buffer is empty", x.feed('t'), 1);
        Check.same("up", x.node(1, 0), 1);
    }

    private static void promise24Refused() {
        String[] scripts = {
            "tick 0;", "tick 61;", "tick 999;", "crash 5;", "crash 999;", "restart 0;", "restart 5;",
            "cut 1,1;", "cut 5,1;", "cut 1,5;", "join 2,2;", "join 0,9;", "join 6,0;", "put 0,1;",
            "put 5,1;", "pack 5;", "crash 4;crash 4;", "crash 4;pack 4;", "crash 0;put 0,1;",
        };
        for (String script : scripts) {
            Face x = new Real();
            Check.feed(x, script);
            Check.refuses("perform of " + script, Check.UNSUPPORTED, () -> x.perform());
            Check.same("the buffer is empty after " + script, x.feed('t'), 1);
        }
        Face x = Check.started(1, 0);
        x.tick(16);
        for (int i = 2; i <= 24; i++) {
            Check.same("put", Check.perform(x, "put 0,1;"), 1);
        }
        Check.feed(x, "put 0,1;");
        Check.refuses("put to a full log", Check.UNSUPPORTED, () -> x.perform());
    }

    private static void promise24Stops() {
        Face x = new Real();
        Check.feed(x, "tick 3;crash 2;tick 4;cut 0,0;tick 5;crash 1;");
        Check.refuses("perform", Check.UNSUPPORTED, () -> x.perform());
        Check.same("the ones before stay performed", x.statistic(0), 7);
        Check.same("the ones before stay performed", x.node(2, 0), 0);
        Check.same("the ones after are not performed", x.node(1, 0), 1);
        Check.same("an error in the last one", Check.perform(x, "tick 3;crash 1;tick 5"), -121);
        Check.same("none is performed", x.statistic(0), 7);
        Check.same("none is performed", x.node(1, 0), 1);
    }

    private static void promise25() {
        Face x = Check.started(2, 0);
        for (int node : new int[] {-1, 5, Integer.MIN_VALUE, Integer.MAX_VALUE}) {
            Check.refuses("write(" + node + ")", Check.INDEX, () -> x.write(node));
        }
        Check.same("an empty log", x.write(1), 0);
        Check.refuses("has no text", Check.INDEX, () -> x.text(0));
        x.tick(12);
        x.submit(1, -8);
        x.submit(1, Integer.MIN_VALUE);
        x.submit(1, 0);
        x.reconfigure(1, 3);
        Check.log("a log", x, 1, "1:-! 1:-8! 1:-2147483648! 1:0! 1:J67");
        Check.same("its length", x.write(1), 36);
        x.tick(7);
        Check.log("a log", x, 1, "1:-! 1:-8! 1:-2147483648! 1:0! 1:J67! 1:C3");
        Check.same("pack", x.pack(1), 5);
        Check.log("a snapshot", x, 1, "[5] 1:C3");
        x.tick(6);
        x.pack(1);
        Check.log("a snapshot alone", x, 1, "[6]");
        Check.log("no snapshot", x, 4, "");
        x.submit(1, 1);
        x.crash(1);
        Check.log("a node that is down", x, 1, "[6] 1:1");
    }

    private static void promise26() {
        Face x = Check.started(2, 0);
        Check.refuses("no text yet", Check.INDEX, () -> x.text(0));
        x.tick(12);
        Check.refuses("no text yet", Check.INDEX, () -> x.text(0));
        Check.same("write", x.write(1), 4);
        String due = "1:-!";
        for (int i = 0; i < 4; i++) {
            Check.same("text(" + i + ")", x.text(i), due.charAt(i));
        }
        for (int i : new int[] {-1, 4, Integer.MIN_VALUE, Integer.MAX_VALUE}) {
            Check.refuses("text(" + i + ")", Check.INDEX, () -> x.text(i));
        }
        x.submit(1, 3);
        Check.same("the text is that which was written", x.text(3), '!');
        Check.refuses("write(9)", Check.INDEX, () -> x.write(9));
        Check.same("the text stays", x.text(3), '!');
        x.write(0);
        Check.refuses("the text is replaced", Check.INDEX, () -> x.text(0));
    }

    private static void promise27And28() {
        Face x = new Real();
        Check.refuses("nothing was saved", Check.STATE, () -> x.restore());
        Looks.Run saved = y -> {
            y.setDelay(2);
            y.setLink(3, 4, true);
            y.tick(21);
            y.submit(y.leader(), 6);
            y.tick(1);
            Check.holds("there are messages", y.messages() > 0);
            Check.same("save", y.save(), 22);
        };
        Check.alike("restored", y -> {
            saved.on(y);
            y.setDelay(5);
            y.setLink(3, 4, false);
            y.tick(40);
            y.crash(y.leader());
            y.tick(40);
            y.start(16, 99);
            y.tick(30);
            Check.same("restore", y.restore(), 22);
        }, saved);
        saved.on(x);
        x.feed('t');
        int leader = x.leader();
        int length = x.write(leader);
        char last = x.text(length - 1);
        x.setDelay(5);
        x.tick(40);
        x.restore();
        Check.same("the delay", x.setDelay(2), 2);
        Check.holds("the link", x.setLink(3, 4, true));
        Check.same("the winner", x.winner(1), leader);
        Check.refuses("the other winners", Check.NO_ELEMENT, () -> x.winner(2));
        Check.same("the input buffer is not restored", x.feed('i'), 2);
        Check.same("nor the text", x.text(length - 1), last);
    }

    private static void promise28StaysSaved() {
        Face x = new Real();
        Check.same("save at 0", x.save(), 0);
        x.tick(30);
        Check.same("restore", x.restore(), 0);
        x.tick(9);
        Check.same("restore again", x.restore(), 0);
        x.tick(14);
        x.submit(0, 1);
        Check.same("save in its place", x.save(), 14);
        x.submit(0, 2);
        x.start(31, 1);
        Check.same("restore", x.restore(), 14);
        Check.log("what was saved", x, 0, "1:-! 1:1");
        x.submit(0, 3);
        x.tick(9);
        Check.same("restore", x.restore(), 14);
        Check.log("what was saved", x, 0, "1:-! 1:1");
        Looks.Run saved = y -> {
            y.start(7, 12345);
            y.save();
            y.tick(30);
        };
        Check.alike("the seed is restored", y -> {
            saved.on(y);
            y.start(7, 54321);
            y.restore();
            y.tick(30);
        }, saved);
    }

    /** A joint configuration in a snapshot, first in a message and then in a node. */
    private static void promise28JointSnapshot() {
        Face x = new Real();
        x.tick(14);
        x.reconfigure(0, 15);
        x.crash(3);
        x.tick(3);
        Check.same("the joint configuration is packed", x.pack(0), 2);
        Check.log("but not the next one", x, 0, "[2] 1:C15");
        x.restart(3);
        x.tick(1);
        Check.message("a snapshot", x, 2, 4, 0, 3, 1, 19, 2, 1);
        x.save();
        disturb(x, 30);
        x.restore();
        x.tick(1);
        Check.node("installed", x, 3, 1, 0, 1, -1, 2, 2, 1, 2, 0, 10, 7, 15, -1, 0);
        x.save();
        disturb(x, 30);
        x.restore();
        Check.node("restored", x, 3, 1, 0, 1, -1, 2, 2, 1, 2, 0, 10, 7, 15, -1, 0);
        x.tick(6);
        Check.log("with the next one", x, 3, "[2] 1:C15!");
    }

    /** After each step of a long run, much is done between a save and a restore. */
    private static void promise28InEachState() {
        for (int steps = 4; steps <= 40; steps += 4) {
            int end = steps;
            Looks.Run saved = x -> {
                x.start(31, 0);
                for (int i = 1; i <= end; i++) {
                    step(x, i);
                }
                x.save();
            };
            Check.alike("after " + steps + " steps", x -> {
                saved.on(x);
                disturb(x, end);
                x.restore();
            }, saved);
        }
    }

    /** Calls that are refused change nothing. */
    private static void step(Face x, int i) {
        int n = i % 5;
        Check.attempt(y -> y.submit(n, i), x);
        Check.attempt(i % 7 == 0 ? y -> y.crash(n) : y -> y.restart(n), x);
        x.setLink(n, (i + 2) % 5, i % 6 == 0);
        if (i % 9 == 0) {
            Check.attempt(y -> y.pack(n), x);
            x.setDelay(1 + i % 3);
        }
        x.tick(1 + i % 4);
    }

    private static void disturb(Face x, int i) {
        x.start(1 + i % 31, i);
        x.setDelay(1 + i % 5);
        x.tick(12);
        for (int n = 0; n < 5; n++) {
            int node = n;
            Check.attempt(y -> y.submit(node, 7), x);
            Check.attempt(y -> y.reconfigure(node, 6), x);
        }
        x.tick(7);
        x.pack(i % 5);
        x.tick(1 + i % 3);
    }
}
