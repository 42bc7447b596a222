/** Boundaries of the promises 23 to 28: the input buffer, scripts, texts and what is saved. */
public final class TextEdges {
    private static final String EMPTY =
            "The buffer is empty afterwards, also after an error or an exception.";
    private static final String STAYS =
            "If a command cannot be performed, the commands before it stay performed, and the remaining"
            + " ones are not performed.";
    private static final String ERROR =
            "Returns the number of commands; -100 minus the error position after a syntax error, and then"
            + " no command is performed.";
    private static final String IMPOSSIBLE =
            "Throws `UnsupportedOperationException` if the text is correct, and the corresponding method"
            + " throws an exception for one of the commands";

    private TextEdges() { }

    public static void main(String[] args) {
        feed();
        feedAgain();
        performEmpties();
        performCounts();
        performErrors();
        performImpossible();
        performStops();
        performKeepsTheRest();
        write();
        writeInPlace();
        text();
        save();
        saveInPlace();
        restore();
        restoreOften();
        Check.end("TextEdges");
    }

    private static void feed() {
        Check.sentence("Returns the number of characters in the buffer.");
        Face x = new Real();
        for (int i = 1; i <= 80; i++) {
            Check.same("feed", x.feed((char) (i * 819)), i);
        }
        Check.refuses("the 81st", Check.STATE, () -> x.feed('a'));
        Check.refuses("the 81st again", Check.STATE, () -> x.feed(';'));
    }

    private static void feedAgain() {
        Check.sentence(EMPTY);
        Face x = new Real();
        Check.feed(x, "tick 1;".repeat(10) + "crash 001;");
        Check.refuses("the 81st", Check.STATE, () -> x.feed('a'));
        Check.same("the one that was refused is not in it", x.perform(), 11);
        Check.same("there is room again", x.feed('t'), 1);
        Check.same("for eighty", Check.perform(x, "ick 1;" + "tick 1;".repeat(9) + "crash 002;"), 11);
        Check.same("the time", x.statistic(0), 20);
    }

    private static void performEmpties() {
        Check.sentence(EMPTY);
        Face x = new Real();
        for (String script : new String[] {"", "tick 1;", "tick 1", "tick 0;", "tick 1;crash 5;tick 1;"}) {
            Check.attempt(y -> Check.perform(y, script), x);
            Check.same("after '" + script + "'", x.feed('t'), 1);
            Check.same("and after that", x.perform(), -100);
        }
        Check.same("the time", x.statistic(0), 2);
    }

    private static void performCounts() {
        Check.sentence(ERROR);
        for (int count = 1; count <= 11; count++) {
            Face x = new Real();
            Check.same("so many commands", Check.perform(x, "tick 2;".repeat(count)), count);
            Check.same("the time", x.statistic(0), 2 * count);
        }
    }

    /** An error stands behind commands that would change much. */
    private static void performErrors() {
        Check.sentence(ERROR);
        Check.sentence(Check.UNCHANGED);
        String good = "tick 14;put 0,5;crash 1;cut 0,2;pack 0;";
        String[] ends = {"t", "tick", "tick ", "tick 1", "tick 1;;", "stop 1;", "put 0;", "tick 0001;"};
        int[] positions = {0, 4, 5, 6, 7, 0, 5, 8};
        for (int i = 0; i < ends.length; i++) {
            String script = good + ends[i];
            int due = -100 - good.length() - positions[i];
            Face x = new Real();
            Check.same("perform of '" + script + "'", Check.perform(x, script), due);
            Check.alike("nothing is performed of '" + script + "'", y -> Check.perform(y, script), y -> { });
        }
    }

    private static final String[] NEVER = {
        "tick 0;", "tick 000;", "tick 61;", "tick 062;", "tick 999;", "crash 5;", "crash 005;", "crash 999;",
        "restart 0;", "restart 5;", "restart 999;", "cut 0,0;", "cut 4,4;", "cut 5,0;", "cut 0,5;", "cut 5,5;",
        "join 0,0;", "join 5,0;", "join 0,5;", "put 0,1;", "put 5,1;", "put 999,999;", "pack 5;", "pack 999;",
    };

    private static final String[] ALWAYS = {
        "tick 1;", "tick 60;", "crash 0;", "crash 4;", "cut 0,4;", "cut 4,0;", "join 0,4;", "pack 0;", "pack 4;",
        "crash 4;restart 4;", "crash 0;restart 0;", "tick 10;put 0,0;", "tick 10;put 0,999;",
    };

    private static void performImpossible() {
        Check.sentence(IMPOSSIBLE);
        for (String script : NEVER) {
            Face x = new Real();
            Check.feed(x, script);
            Check.refuses("perform of " + script, Check.UNSUPPORTED, () -> x.perform());
            Check.alike("nothing is changed by " + script,
                    y -> Check.attempt(z -> Check.perform(z, script), y), y -> { });
        }
        for (String script : ALWAYS) {
            Face x = new Real();
            Check.holds("perform of " + script, Check.perform(x, script) > 0);
        }
        for (String last : new String[] {"crash 4;", "pack 4;", "put 4,1;"}) {
            Face x = new Real();
            x.crash(4);
            Check.feed(x, last);
            Check.refuses("down: " + last, Check.UNSUPPORTED, () -> x.perform());
        }
        Face x = new Real();
        Scenes.alone(x);
        Check.fill(x, 0, 23);
        Check.same("the 24th", Check.perform(x, "put 0,1;"), 1);
        Check.feed(x, "put 0,1;");
        Check.refuses("the 25th", Check.UNSUPPORTED, () -> x.perform());
        Check.same("with room again", Check.perform(x, "pack 0;put 0,1;"), 2);
    }

    private static void performStops() {
        Check.sentence(STAYS);
        String before = "tick 14;put 0,7;cut 0,2;crash 4;";
        String after = "tick 5;crash 3;";
        Looks.Run due = x -> {
            x.tick(14);
            x.submit(0, 7);
            x.setLink(0, 2, true);
            x.crash(4);
        };
        String[] impossible = {"tick 0;", "tick 61;", "crash 4;", "restart 0;", "cut 1,1;", "put 1,1;", "pack 4;"};
        for (String command : impossible) {
            Face x = new Real();
            Check.feed(x, before + command + after);
            Check.refuses("perform with " + command, Check.UNSUPPORTED, () -> x.perform());
            Check.alike("the state after " + command,
                    y -> Check.attempt(z -> Check.perform(z, before + command + after), y), due);
            Check.alike("the state after " + command + " as the last one",
                    y -> Check.attempt(z -> Check.perform(z, before + command), y), due);
        }
    }

    /** What was written and saved is not the matter of a script. */
    private static void performKeepsTheRest() {
        Check.sentence("Parses the input buffer as a script and performs its commands.");
        Looks.Run before = x -> {
            x.tick(14);
            x.write(0);
            x.save();
            x.setDelay(2);
        };
        Check.alike("commands and calls", x -> {
            before.on(x);
            Check.perform(x, "put 0,3;tick 9;pack 0;crash 2;");
        }, x -> {
            before.on(x);
            x.submit(0, 3);
            x.tick(9);
            x.pack(0);
            x.crash(2);
        });
    }

    private static void write() {
        Check.sentence("Returns the length of the text.");
        Face x = new Real();
        for (int n = 0; n < 5; n++) {
            Check.same("an empty log", x.write(n), 0);
        }
        Scenes.alone(x);
        Check.same("one entry", x.write(0), 4);
        x.pack(0);
        Check.same("a snapshot", x.write(0), 3);
        for (int i = 0; i < 24; i++) {
            x.submit(0, Integer.MIN_VALUE);
        }
        Check.same("the longest values", x.write(0), 3 + 24 * 15);
        Check.same("the last letter", x.text(3 + 24 * 15 - 1), '!');
        Check.refuses("and no more", Check.INDEX, () -> x.text(3 + 24 * 15));
    }

    private static void writeInPlace() {
        Check.sentence("Writes the log of a node as a text, which replaces the earlier one.");
        Face x = new Real();
        Scenes.three(x);
        x.submit(0, 5);
        Check.same("the longer one", x.write(0), 8);
        Check.same("the shorter one", x.write(1), 4);
        Check.refuses("nothing is left of the longer one", Check.INDEX, () -> x.text(4));
        Check.refuses("a node that is none", Check.INDEX, () -> x.write(5));
        Check.same("the text is the earlier one", x.text(3), '!');
        Check.same("none at all", x.write(4), 0);
        Check.refuses("nothing is left", Check.INDEX, () -> x.text(0));
    }

    private static void text() {
        Check.sentence("Returns a character of the text that was written last, which is empty at first.");
        Face x = new Real();
        Check.refuses("empty at first", Check.INDEX, () -> x.text(0));
        Scenes.alone(x);
        Check.refuses("nothing was written", Check.INDEX, () -> x.text(0));
        x.write(0);
        x.submit(0, 5);
        String due = "1:-!";
        for (int i = 0; i < due.length(); i++) {
            Check.same("text(" + i + ")", x.text(i), due.charAt(i));
        }
        Check.refuses("text(-1)", Check.INDEX, () -> x.text(-1));
        Check.refuses("text(4)", Check.INDEX, () -> x.text(4));
    }

    private static void save() {
        Check.sentence("Returns the time.");
        Face x = new Real();
        Check.same("save at 0", x.save(), 0);
        x.tick(17);
        Check.same("save at 17", x.save(), 17);
        x.tick(1);
        Check.same("restore at 18", x.restore(), 17);
        Check.same("the time", x.statistic(0), 17);
    }

    private static void saveInPlace() {
        Check.sentence("Saves the simulation, in place of what was saved before.");
        Looks.Run first = x -> {
            Scenes.twoLeaders(x, 4, 3);
            x.save();
        };
        Looks.Run second = x -> {
            x.start(31, 7);
            x.tick(22);
            x.setDelay(2);
            x.save();
        };
        Check.alike("the later one", x -> {
            first.on(x);
            second.on(x);
            x.tick(30);
            x.restore();
        }, second);
        Check.alike("the later one with less", x -> {
            Scenes.crowd(x);
            x.save();
            x.start(3, 0);
            x.save();
            x.tick(30);
            x.restore();
        }, x -> {
            x.start(3, 0);
            x.save();
        });
    }

    private static void restore() {
        Check.sentence("Restores what was saved, which stays saved.");
        Face x = new Real();
        Check.refuses("nothing was saved", Check.STATE, () -> x.restore());
        Looks.Run[] states = {
            Scenes::three,
            Scenes::crowd,
            y -> Scenes.twoLeaders(y, 4, 3),
            y -> {
                Scenes.three(y);
                y.reconfigure(0, 15);
                y.tick(3);
                y.pack(0);
                y.crash(2);
                y.setLink(0, 4, true);
                y.setDelay(3);
                y.tick(2);
            },
            y -> y.tick(8),
            TextEdges::withSnapshotOnItsWay,
            y -> {
                withSnapshotOnItsWay(y);
                y.tick(1);
            },
            y -> {
                Scenes.three(y);
                y.submit(0, 3);
                y.tick(4);
            },
        };
        for (Looks.Run state : states) {
            Looks.Run saved = y -> {
                state.on(y);
                y.save();
            };
            Check.alike("restored at once", y -> {
                saved.on(y);
                y.restore();
            }, saved);
            Check.alike("restored after ticks", y -> {
                saved.on(y);
                y.tick(50);
                y.restore();
            }, saved);
            Check.alike("restored after another start", y -> {
                saved.on(y);
                y.start(9, 9);
                y.setLink(0, 3, true);
                y.tick(37);
                y.restore();
            }, saved);
            Check.alike("restored after other messages", y -> {
                saved.on(y);
                y.start(31, 1);
                y.tick(20);
                y.restore();
            }, saved);
        }
    }

    /** The snapshot of the leader has the result 31 * 2 + 3 and waits for node 2. */
    private static void withSnapshotOnItsWay(Face x) {
        Scenes.three(x);
        x.crash(2);
        Check.fill(x, 0, 3);
        x.tick(3);
        Check.same("pack", x.pack(0), 3);
        x.restart(2);
        x.tick(1);
        Check.message("the snapshot", x, 1, 4, 0, 2, 1, 19, 3, 1);
    }

    private static void restoreOften() {
        Check.sentence("Restores what was saved, which stays saved.");
        Looks.Run saved = x -> {
            Scenes.twoLeaders(x, 2, 3);
            x.setLink(0, 2, false);
            x.save();
        };
        Check.alike("three times", x -> {
            saved.on(x);
            for (int i = 0; i < 3; i++) {
                x.tick(4);
                x.submit(2, i);
                x.crash(1);
                x.pack(0);
                Check.same("restore", x.restore(), 26);
            }
        }, saved);
    }
}
