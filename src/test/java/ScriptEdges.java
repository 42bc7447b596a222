/** Boundaries of the description: texts of logs, and scripts. */
public final class ScriptEdges {
    private static final String POSITION =
            "The error position of a text is the offset of this word if it is none of these, and"
            + " otherwise the offset, from 0, of the first character that cannot continue a script, or"
            + " the length of the text if it ends too early.";

    private ScriptEdges() { }

    public static void main(String[] args) {
        textOfNothing();
        textOfASnapshot();
        textOfEntries();
        textOfCommitted();
        textOfNumbers();
        oneOrMoreCommands();
        eachCommand();
        words();
        digits();
        spaces();
        commas();
        semicolons();
        tooEarly();
        letters();
        fullBuffer();
        Check.end("ScriptEdges");
    }

    private static final String TEXT =
            "The text of a log consists of the snapshot, if its index is not 0, as [ followed by its"
            + " index and ], and then the entries, with a space between two of these parts: the term, a"
            + " colon, and then, by the kind, the value; J and the value; C and the value; or - for a"
            + " blank entry; an entry that is committed is followed by !.";

    private static void textOfNothing() {
        Check.sentence(TEXT);
        Face x = new Real();
        for (int n = 0; n < 5; n++) {
            Check.same("the length", x.write(n), 0);
            Check.log("no snapshot and no entry", x, n, "");
        }
    }

    private static void textOfASnapshot() {
        Check.sentence(TEXT);
        Face x = new Real();
        Scenes.alone(x);
        Check.log("no snapshot and one entry", x, 0, "1:-!");
        x.pack(0);
        Check.log("a snapshot and no entry", x, 0, "[1]");
        x.submit(0, 5);
        Check.log("a snapshot and one entry", x, 0, "[1] 1:5!");
        Check.fill(x, 0, 10);
        x.pack(0);
        Check.log("an index of two digits", x, 0, "[10]");
        for (int i = 0; i < 4; i++) {
            Check.fill(x, 0, 34 + 24 * i);
            x.pack(0);
        }
        Check.log("an index of three digits", x, 0, "[106]");
    }

    private static void textOfEntries() {
        Check.sentence(TEXT);
        Face x = new Real();
        Scenes.alone(x);
        x.submit(0, 5);
        Check.log("one space between two", x, 0, "1:-! 1:5!");
        x.reconfigure(0, 1);
        x.submit(0, 6);
        Check.log("each kind", x, 0, "1:-! 1:5! 1:J33! 1:C1! 1:6!");
        x.crash(0);
        x.restart(0);
        x.tick(9);
        Check.log("another term", x, 0, "1:-! 1:5! 1:J33! 1:C1! 1:6! 2:-!");
        Check.same("the length", x.write(0), 32);
    }

    private static void textOfCommitted() {
        Check.sentence("an entry that is committed is followed by !");
        Face x = new Real();
        x.tick(11);
        Check.log("not committed", x, 0, "1:-");
        x.tick(1);
        Check.log("committed", x, 0, "1:-!");
        Check.log("committed, but not for this node", x, 1, "1:-");
        x.submit(0, 5);
        Check.log("the last one is not", x, 0, "1:-! 1:5");
        x.pack(0);
        Check.log("behind a snapshot", x, 0, "[1] 1:5");
    }

    private static void textOfNumbers() {
        Check.sentence("Values below 0 are written with a minus sign.");
        Face x = new Real();
        Scenes.alone(x);
        x.pack(0);
        int[] values = {0, 1, -1, 9, 10, -10, Integer.MAX_VALUE, Integer.MIN_VALUE};
        String[] texts = {"0", "1", "-1", "9", "10", "-10", "2147483647", "-2147483648"};
        StringBuilder due = new StringBuilder("[1]");
        for (int i = 0; i < values.length; i++) {
            x.submit(0, values[i]);
            due.append(" 1:").append(texts[i]).append('!');
        }
        Check.log("values", x, 0, due.toString());
    }

    private static void performs(String script, int due) {
        Face x = new Real();
        Check.same("perform of '" + script + "'", Check.perform(x, script), due);
        Check.same("the buffer after '" + script + "'", x.feed('t'), 1);
    }

    private static void oneOrMoreCommands() {
        Check.sentence("A script is a text of one or more commands, each followed by a semicolon");
        performs("tick 1;", 1);
        performs("tick 1;tick 1;", 2);
        performs("crash 1;restart 1;crash 1;restart 1;crash 1;", 5);
        performs("", -100);
        performs(";", -100);
        performs("tick 1;;", -107);
        performs("tick 1", -106);
        performs("tick 1;tick 1", -113);
    }

    private static void eachCommand() {
        Check.sentence("the word tick and a number, which makes so many ticks; crash or restart and a"
                + " node; cut or join and two nodes with a comma between them, for the link; put, a"
                + " node, a comma and a number, which submits this value; pack and a node, for a"
                + " snapshot");
        same("tick 14;", x -> x.tick(14));
        same("tick 60;", x -> x.tick(60));
        same("cut 0,1;cut 2,0;pack 1;pack 2;crash 1;restart 1;tick 14;", x -> {
            x.setLink(0, 1, true);
            x.setLink(0, 2, true);
            x.pack(1);
            x.pack(2);
            x.crash(1);
            x.restart(1);
            x.tick(14);
        });
        same("crash 0;crash 4;", x -> {
            x.crash(0);
            x.crash(4);
        });
        same("tick 9;crash 2;tick 1;restart 2;tick 20;", x -> {
            x.tick(9);
            x.crash(2);
            x.tick(1);
            x.restart(2);
            x.tick(20);
        });
        same("cut 0,1;cut 4,3;cut 1,2;join 2,1;tick 20;", x -> {
            x.setLink(0, 1, true);
            x.setLink(3, 4, true);
            x.tick(20);
        });
        same("tick 14;put 0,0;put 0,999;tick 4;pack 1;pack 4;", x -> {
            x.tick(14);
            x.submit(0, 0);
            x.submit(0, 999);
            x.tick(4);
            x.pack(1);
            x.pack(4);
        });
    }

    private static void same(String script, Looks.Run due) {
        Check.alike(script, x -> Check.perform(x, script), due);
    }

    private static void words() {
        Check.sentence("At the beginning of a command, the longest sequence of letters a to z is read as"
                + " its word.");
        String[] ones = {"tick", "crash", "pack", "cut", "join", "restart", "put"};
        for (String word : ones) {
            performs(word, -100 - word.length());
            performs(word + "x 1;", -100);
            performs(word.substring(1) + " 1;", -100);
            performs(word.substring(0, word.length() - 1) + " 1;", -100);
            performs("tick 1;" + word + "s 1;", -107);
        }
        performs("ticktick 1;", -100);
        performs("tick1;", -104);
        performs("TICK 1;", -100);
        performs("tickA 1;", -104);
        performs("a 1;", -100);
        performs("z 1;", -100);
        performs("`tick 1;", -100);
        performs("{tick 1;", -100);
        performs("tick` 1;", -104);
        performs("tick{ 1;", -104);
        Check.sentence(POSITION);
        performs("tick 1;tack 1;", -107);
        performs("tick 1; tick 1;", -107);
        performs("tick 1;tick 1;tac", -114);
        performs("zzz", -100);
    }

    private static void digits() {
        Check.sentence("Between the word and the first number there is one space; nodes are numbers; a"
                + " number is one to three digits.");
        performs("tick ;", -105);
        performs("tick 1;", 1);
        performs("tick 12;", 1);
        performs("tick 012;", 1);
        performs("tick 0012;", -108);
        performs("tick -1;", -105);
        performs("tick +1;", -105);
        performs("tick /;", -105);
        performs("tick :;", -105);
        performs("tick 1/;", -106);
        performs("tick 1:;", -106);
        performs("tick 1a;", -106);
        performs("crash 000;", 1);
        performs("crash 0000;", -109);
        performs("cut 001,002;", 1);
        performs("cut 0001,2;", -107);
        performs("cut 1,0002;", -109);
        performs("cut 1,;", -106);
        performs("cut ,1;", -104);
        Check.sentence("numbers in texts can have zeros at their beginning");
        Face x = new Real();
        Check.same("tick 010;", Check.perform(x, "tick 010;"), 1);
        Check.same("the time", x.statistic(0), 10);
        Check.same("put", Check.perform(x, "put 00,007;put 0,000;"), 2);
        Check.log("values", x, 0, "1:- 1:7 1:0");
    }

    private static void spaces() {
        Check.sentence("Between the word and the first number there is one space");
        performs("tick1;", -104);
        performs("tick  1;", -105);
        performs(" tick 1;", -100);
        performs("tick 1 ;", -106);
        performs("tick 1; ", -107);
        performs("tick\t1;", -104);
        performs("tick 1;\n", -107);
        performs("cut 0 ,1;", -105);
        performs("cut 0, 1;", -106);
        performs("cut 0,1 ;", -107);
        performs("tick" + (char) 160 + "1;", -104);
        performs("tick" + (char) 288 + "1;", -104);
    }

    private static void commas() {
        Check.sentence("cut or join and two nodes with a comma between them");
        performs("cut 0,1;", 1);
        performs("cut 0;", -105);
        performs("join 0;", -106);
        performs("put 0;", -105);
        performs("cut 0;1;", -105);
        performs("cut 0,1,2;", -107);
        performs("cut 0,,1;", -106);
        performs("crash 0,1;", -107);
        performs("restart 0,1;", -109);
        performs("pack 0,1;", -106);
        performs("tick 1,1;", -106);
    }

    private static void semicolons() {
        Check.sentence("each followed by a semicolon");
        performs("tick 1:", -106);
        performs("tick 1tick 1;", -106);
        performs("tick 123tick 1;", -108);
        performs("cut 0,1cut 0,1;", -107);
    }

    /** Each beginning of a script that is none, and its length. */
    private static void tooEarly() {
        Check.sentence(POSITION);
        String[] scripts = {"tick 012;", "restart 001;", "cut 012,123;", "put 0,999;"};
        for (String script : scripts) {
            int word = script.indexOf(' ');
            for (int length = 1; length < script.length(); length++) {
                String text = script.substring(0, length);
                performs(text, length < word ? -100 : -100 - length);
                performs("tick 1;" + text, length < word ? -107 : -107 - length);
            }
        }
        Check.sentence("An empty text has the error position 0");
        performs("", -100);
        Face x = new Real();
        Check.same("nothing was fed", x.perform(), -100);
        Check.same("again", x.perform(), -100);
    }

    private static void letters() {
        Check.sentence("any character");
        for (int letter : new int[] {0, 1, 127, 128, 255, 256, 0x174, 0x17F, 0xFF0B, 0xFFFF}) {
            performs("" + (char) letter, -100);
            performs("tick" + (char) letter + "1;", -104);
            performs("tick " + (char) letter + ";", -105);
            performs("tick 1" + (char) letter, -106);
            performs("cut 0" + (char) letter + "1;", -105);
        }
    }

    private static void fullBuffer() {
        Check.sentence("if the buffer already holds 80 characters");
        String eleven = "tick 1;tick 1;tick 1;tick 1;tick 1;tick 1;tick 1;tick 1;tick 1;tick 1;";
        performs(eleven + "tick 001;", 11);
        performs(eleven + "crash 001;", 11);
        performs(eleven + "put 0,0001", -179);
        performs(eleven + "put 0,0001".substring(0, 9), -179);
        performs(eleven + "tick 01234", -178);
        performs(eleven + "abcdefghij", -170);
    }
}
