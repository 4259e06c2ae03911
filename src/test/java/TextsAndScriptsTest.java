import java.io.IOException;
import java.util.NoSuchElementException;

/** Promises 51 to 61, the check, the texts, scripts, undo and the snapshot: a test for each sentence. */
public final class TextsAndScriptsTest {
    private static final String LENGTH = "Returns the length of the output text.";

    public static void main(String[] args) throws IOException {
        Sentences promises = Sentences.ofPromises(51, 61);
        isConsistent(promises);
        renderTable(promises);
        renderList(promises);
        outputAt(promises);
        type(promises);
        runScript(promises);
        errorPosition(promises);
        failedCommand(promises);
        undo(promises);
        save(promises);
        restore(promises);
        promises.end();
    }

    private static void isConsistent(Sentences promises) {
        promises.test("Promise 51", "Returns true if all of this holds.", check -> {
            TeaspoonSalon salon = new TeaspoonSalon();
            check.due("a new object", true, salon.isConsistent());
            Setting.propose(salon, 40, 60, 40, 0, 99, 50);
            check.due("without spoons", true, salon.isConsistent());
            for (int spoon = 0; spoon < 8; spoon++) {
                salon.addSpoon(1 + spoon, 13 * spoon);
                check.due("with spoons", true, salon.isConsistent());
            }
            for (int cell = 0; cell < 64; cell += 3) {
                salon.spill(cell / 8, cell % 8, 1 + cell % 4);
                check.due("with tea", true, salon.isConsistent());
            }
            Setting.run(salon, "move 5;speak 4;speak 4;amend 9;vote;vote;sugar 3 9");
            check.due("after a debate", true, salon.isConsistent());
            salon.undo();
            check.due("after undo", true, salon.isConsistent());
        });
    }

    private static void renderTable(Sentences promises) {
        String heading = "Promise 52";
        promises.test(heading, "Replaces the output text by the motions on the table, from the lowest one on: for each its "
                + "kind, with the id of the proposal behind \"m\" and the change behind \"a\"; followed by \"!\" if the debate is "
                + "closed; as in \"m3a-5c\".", check -> {
            TeaspoonSalon salon = Setting.withList(1, 2, 3, 4);
            salon.renderList();
            salon.moveMain(3);
            check.due("m", "m3", Setting.table(salon));
            salon.moveAmendment(-5);
            check.due("a", "m3a-5", Setting.table(salon));
            salon.moveClosure();
            check.due("c", "m3a-5c", Setting.table(salon));
            salon.vote();
            check.due("closed", "m3a-5!", Setting.table(salon));
            Setting.move(salon, "pcj");
            check.due("above it", "m3a-5pcj!", Setting.table(salon));
            for (int change : new int[] {-20, 0, 20}) {
                TeaspoonSalon amended = Setting.move(Setting.withList(50), "m");
                amended.moveAmendment(change);
                check.due("a", "m0a" + change, Setting.table(amended));
            }
            TeaspoonSalon late = new TeaspoonSalon();
            for (int id = 0; id < 101; id++) {
                late.propose(5);
                late.moveMain(id);
                late.vote();
            }
            late.propose(5);
            late.moveMain(101);
            check.due("a long id", "m101", Setting.table(late));
        });
        promises.test(heading, "The text is empty for an empty table.", check -> {
            TeaspoonSalon salon = Setting.withList(50);
            check.due("at first", 0, salon.renderTable());
            salon.renderList();
            check.due("in the stead of another text", 0, salon.renderTable());
            check.refused("outputAt", IndexOutOfBoundsException.class, () -> salon.outputAt(0));
            Setting.move(salon, "mc").vote();
            salon.vote();
            check.due("after a closed debate", 0, salon.renderTable());
        });
        promises.test(heading, LENGTH, check -> {
            TeaspoonSalon salon = Setting.withList(50);
            check.due("j", 1, Setting.move(salon, "j").renderTable());
            salon.vote();
            check.due("m0a1pcj", 7, Setting.move(salon, "mapcj").renderTable());
        });
    }

    private static void renderList(Sentences promises) {
        String heading = "Promise 53";
        promises.test(heading, "Replaces the output text by the proposals on the list: for each its id, \"@\" and its "
                + "position, separated by commas; as in \"2@40,0@99\".", check -> {
            TeaspoonSalon salon = Setting.propose(Setting.withSpoons(1, 50), 99, 4, 40);
            salon.moveMain(1);
            salon.vote();
            salon.renderTable();
            check.due("two", "0@99,2@40", Setting.list(salon));
            Setting.move(salon, "mp").vote();
            check.due("turned", "2@40,0@99", Setting.list(salon));
            Setting.move(salon, "m").vote();
            check.due("one", "0@99", Setting.list(salon));
            Setting.move(salon, "m").vote();
            check.due("none", "", Setting.list(salon));
            check.refused("outputAt", IndexOutOfBoundsException.class, () -> salon.outputAt(0));
        });
        promises.test(heading, LENGTH, check -> {
            TeaspoonSalon salon = new TeaspoonSalon();
            check.due("none", 0, salon.renderList());
            check.due("one", 3, Setting.propose(salon, 5).renderList());
            check.due("six", 28, Setting.propose(salon, 50, 51, 52, 53, 54).renderList());
        });
    }

    private static void outputAt(Sentences promises) {
        String heading = "Promise 54";
        promises.test(heading, "Returns a character of the output text, which is empty initially.", check -> {
            TeaspoonSalon salon = Setting.move(Setting.withList(50), "m");
            check.takesBelow(0, "outputAt", IndexOutOfBoundsException.class, salon::outputAt);
            salon.renderTable();
            check.due("then", 'm', salon.outputAt(0));
        });
        promises.test(heading, "Returns the character.", check -> {
            TeaspoonSalon salon = Setting.withList(73);
            salon.renderList();
            check.due("all", "0@73", "" + salon.outputAt(0) + salon.outputAt(1) + salon.outputAt(2) + salon.outputAt(3));
            salon.propose(5);
            check.due("the text stays", '3', salon.outputAt(3));
        });
        promises.test(heading, "Throws `IndexOutOfBoundsException` if there is no such index", check -> {
            TeaspoonSalon salon = Setting.withList(73, 8);
            salon.renderList();
            check.takesBelow(8, "outputAt", IndexOutOfBoundsException.class, salon::outputAt);
            Setting.move(salon, "m");
            salon.renderTable();
            check.takesBelow(2, "outputAt a shorter text", IndexOutOfBoundsException.class, salon::outputAt);
            salon.vote();
            salon.renderTable();
            check.takesBelow(0, "outputAt an empty text", IndexOutOfBoundsException.class, salon::outputAt);
        });
    }

    private static void type(Sentences promises) {
        String heading = "Promise 55";
        promises.test(heading, "Returns the length of the script buffer.", check -> {
            TeaspoonSalon salon = new TeaspoonSalon();
            for (int length = 1; length <= 60; length++) {
                check.due("type", length, salon.type('v'));
            }
            Check.answerOf(salon::runScript);
            check.due("after a run", 1, salon.type('v'));
        });
        promises.test(heading, "Throws `IllegalArgumentException` if the character code is not between 32 and 126", check -> {
            for (int code = 0; code < 300; code++) {
                char character = (char) code;
                TeaspoonSalon salon = new TeaspoonSalon();
                Object want = code >= 32 && code <= 126 ? (Object) 1 : "throws IllegalArgumentException";
                check.due("type " + code, want, Check.answerOf(() -> salon.type(character)));
            }
            TeaspoonSalon salon = new TeaspoonSalon();
            check.refused("the last one", IllegalArgumentException.class, () -> salon.type((char) 0xffff));
            check.refused("a space, wrapped around", IllegalArgumentException.class, () -> salon.type((char) (256 + 32)));
            check.due("nothing was typed", 1, salon.type('v'));
        });
        promises.test(heading, "Throws `IllegalStateException` if the script buffer has 60 characters", check -> {
            TeaspoonSalon salon = new TeaspoonSalon();
            String script = "propose 1;propose 2;propose 3;propose 4;propose 5;propose 06";
            check.due("59 and one more", 60, Setting.type(salon, script));
            check.refused("one too many", IllegalStateException.class, () -> salon.type('7'));
            check.refused("a wrong one too many", IllegalArgumentException.class, () -> salon.type((char) 31));
            check.due("the buffer is as it was", 6, salon.runScript());
            check.due("list", "0@1,1@2,2@3,3@4,4@5,5@6", Setting.list(salon));
        });
    }

    private static void runScript(Sentences promises) {
        String heading = "Promise 56";
        promises.test(heading, "The buffer is empty afterwards, also if an exception is thrown.", check -> {
            for (String script : new String[] {"adjourn", "vote", "", "vot", "adjourn;vote;vote", "adjourn;vote;"}) {
                TeaspoonSalon salon = new TeaspoonSalon();
                Check.answerOf(() -> Setting.run(salon, script));
                check.due("type after " + script, 1, salon.type('m'));
            }
        });
        promises.test(heading, "Returns the number of commands.", check -> {
            TeaspoonSalon salon = Setting.withList(50);
            check.due("one", 1, Setting.run(salon, "adjourn"));
            check.due("two", 2, Setting.run(salon, "vote;adjourn"));
            check.due("nine", 9, Setting.run(salon, "vote;move 0;amend 1;vote;close;vote;close;vote;vote"));
        });
        promises.test(heading, "Throws `IllegalArgumentException` if the script does not have the required form; "
                + "errorPosition then returns its error position", check -> {
            Object[][] scripts = {{"", 0}, {"x", 0}, {"vote;x", 5}, {"vote;", 5}, {"adjourn;vot", 11}, {"spoon 1 1 ", 9}};
            for (Object[] script : scripts) {
                TeaspoonSalon salon = new TeaspoonSalon();
                check.refused("script " + script[0], IllegalArgumentException.class,
                        () -> Setting.run(salon, (String) script[0]));
                check.due("errorPosition of " + script[0], script[1], salon.errorPosition());
                check.refused("no command failed", NoSuchElementException.class, salon::failedCommand);
                check.due("nothing took effect", 0, salon.motionCount());
                check.refused("no change", IllegalStateException.class, salon::undo);
            }
        });
        promises.test(heading, "Throws `IllegalStateException` if the method for a command throws an exception; no command "
                + "takes effect, and failedCommand then returns the index of that command", check -> {
            Object[][] scripts = {{"spoon 0 5", 0}, {"propose 1;propose 2;propose 3;vote", 3}, {"adjourn;vote;vote", 2},
                {"move 0", 0}, {"adjourn;amend 21", 1}, {"adjourn;amend 1;vote", 1}, {"adjourn;postpone", 1},
                {"adjourn;close", 1}, {"adjourn;adjourn", 1}, {"adjourn;speak 0", 1}, {"spoon 1 1;speak 0", 1},
                {"spill 00 3;spill 80 1", 1}, {"spill 00 3;spill 00 31", 1}, {"spill 00 3;mop 77", 1}, {"mop 08", 0},
                {"spoon 1 1;sugar 1 1", 1}, {"spoon 1 1;sugar 0 0", 1}, {"propose 1;adjourn;move 0", 2}};
            for (Object[] script : scripts) {
                TeaspoonSalon salon = new TeaspoonSalon();
                check.refused("script " + script[0], IllegalStateException.class,
                        () -> Setting.run(salon, (String) script[0]));
                check.due("failedCommand of " + script[0], script[1], salon.failedCommand());
                check.refused("the form is right", NoSuchElementException.class, salon::errorPosition);
                check.due("nothing took effect", Setting.portrait(new TeaspoonSalon()), Setting.portrait(salon));
                check.refused("no change", IllegalStateException.class, salon::undo);
                check.due("the next id", 0, salon.propose(5));
            }
        });
    }

    private static void errorPosition(Sentences promises) {
        String heading = "Promise 57";
        promises.test(heading, "Returns the error position of the latest script that did not have the required form.",
                check -> {
            TeaspoonSalon salon = new TeaspoonSalon();
            Check.answerOf(() -> Setting.run(salon, "adjourn;x"));
            check.due("the first", 8, salon.errorPosition());
            Setting.run(salon, "adjourn");
            Check.answerOf(() -> Setting.run(salon, "vote;vote"));
            check.due("others do not count", 8, salon.errorPosition());
            Check.answerOf(() -> Setting.run(salon, "vo te"));
            check.due("a later one", 2, salon.errorPosition());
            Check.answerOf(salon::runScript);
            check.due("an empty one", 0, salon.errorPosition());
        });
        promises.test(heading, "Returns the error position.", check -> {
            TeaspoonSalon salon = new TeaspoonSalon();
            String script = "vote;vote;vote;vote;vote;vote;vote;vote;vote;vote;vote;vote;";
            Check.answerOf(() -> Setting.run(salon, script));
            check.due("at the end of a full buffer", 60, salon.errorPosition());
        });
        promises.test(heading, "Throws `NoSuchElementException` if there was no such script", check -> {
            TeaspoonSalon salon = new TeaspoonSalon();
            check.refused("at first", NoSuchElementException.class, salon::errorPosition);
            Setting.run(salon, "adjourn");
            Check.answerOf(() -> Setting.run(salon, "vote;vote"));
            Setting.type(salon, "x");
            check.refused("after others", NoSuchElementException.class, salon::errorPosition);
            Check.answerOf(salon::runScript);
            check.due("then", 0, salon.errorPosition());
        });
    }

    private static void failedCommand(Sentences promises) {
        String heading = "Promise 58";
        promises.test(heading, "Returns the index of the command that failed in the latest script with a failed command.",
                check -> {
            TeaspoonSalon salon = new TeaspoonSalon();
            Check.answerOf(() -> Setting.run(salon, "adjourn;vote;vote"));
            check.due("the first", 2, salon.failedCommand());
            Setting.run(salon, "adjourn;vote");
            Check.answerOf(() -> Setting.run(salon, "vote;x"));
            check.due("others do not count", 2, salon.failedCommand());
            Check.answerOf(() -> Setting.run(salon, "adjourn;close"));
            check.due("a later one", 1, salon.failedCommand());
        });
        promises.test(heading, "Returns the index of the command, counted from 0.", check -> {
            TeaspoonSalon salon = Setting.move(Setting.withList(50), "mapcj");
            Check.answerOf(() -> Setting.run(salon, "vote;vote;vote;vote;vote;vote;vote;vote;vote;vote;vote;vote"));
            check.due("the sixth", 5, salon.failedCommand());
            Check.answerOf(() -> Setting.run(salon, "close"));
            check.due("the first", 0, salon.failedCommand());
        });
        promises.test(heading, "Throws `NoSuchElementException` if there was no such script", check -> {
            TeaspoonSalon salon = new TeaspoonSalon();
            check.refused("at first", NoSuchElementException.class, salon::failedCommand);
            Setting.run(salon, "adjourn");
            Check.answerOf(() -> Setting.run(salon, "vote;vote;x"));
            check.refused("after others", NoSuchElementException.class, salon::failedCommand);
            Check.answerOf(() -> Setting.run(salon, "close"));
            check.due("then", 0, salon.failedCommand());
        });
    }

    private static void undo(Sentences promises) {
        String heading = "Promise 59";
        promises.test(heading, "Undoes the latest change that has not been undone.", check -> {
            TeaspoonSalon salon = Setting.withList(1, 2, 3);
            salon.undo();
            check.due("the third", "0@1,1@2", Setting.list(salon));
            salon.undo();
            check.due("the second", "0@1", Setting.list(salon));
            salon.propose(4);
            salon.undo();
            check.due("the new one", "0@1", Setting.list(salon));
            salon.undo();
            check.due("the first", "", Setting.list(salon));
        });
        promises.test(heading, "Returns the number of changes that can still be undone.", check -> {
            TeaspoonSalon salon = Setting.withList(1);
            check.due("of one", 0, salon.undo());
            Setting.propose(salon, 1, 2, 3, 4, 5, 6);
            salon.spill(0, 0, 1);
            check.due("of seven", 6, salon.undo());
            salon.spill(0, 0, 1);
            salon.spill(0, 0, 1);
            check.due("of eight", 7, salon.undo());
            salon.spill(0, 0, 1);
            salon.spill(0, 0, 1);
            check.due("of nine", 7, salon.undo());
            check.due("next", 6, salon.undo());
        });
        promises.test(heading, "Throws `IllegalStateException` if there is nothing to undo", check -> {
            TeaspoonSalon salon = new TeaspoonSalon();
            check.refused("at first", IllegalStateException.class, salon::undo);
            salon.propose(1);
            salon.undo();
            check.refused("all undone", IllegalStateException.class, salon::undo);
            check.due("nothing is lost", 0, salon.propose(1));
            check.due("undo", 0, salon.undo());
            for (int change = 0; change < 9; change++) {
                salon.spill(0, 0, 1);
            }
            for (int undone = 0; undone < 8; undone++) {
                salon.undo();
            }
            check.refused("the ninth", IllegalStateException.class, salon::undo);
            check.due("the first spill stays", 1, salon.wetCells());
            salon.save();
            salon.spill(0, 0, 1);
            salon.restore();
            check.refused("after restore", IllegalStateException.class, salon::undo);
        });
    }

    private static void save(Sentences promises) {
        String heading = "Promise 60";
        promises.test(heading, "Takes a snapshot, which replaces an earlier one.", check -> {
            TeaspoonSalon salon = Setting.withList(1);
            salon.save();
            salon.propose(2);
            salon.save();
            salon.propose(3);
            salon.restore();
            check.due("the later one", "0@1,1@2", Setting.list(salon));
            salon.propose(4);
            salon.undo();
            salon.restore();
            check.due("still the later one", "0@1,1@2", Setting.list(salon));
        });
        promises.test(heading, "Returns the number of spoons.", check -> {
            TeaspoonSalon salon = new TeaspoonSalon();
            for (int count = 0; count <= 8; count++) {
                check.due("save", count, salon.save());
                if (count < 8) {
                    salon.addSpoon(1, 1);
                }
            }
            check.due("save is no change", 7, salon.undo());
        });
    }

    private static void restore(Sentences promises) {
        String heading = "Promise 61";
        promises.test(heading, "Restores the snapshot, which is kept. Afterwards there is nothing to undo.", check -> {
            TeaspoonSalon salon = Setting.withList(1);
            salon.save();
            for (int round = 0; round < 3; round++) {
                salon.propose(2);
                salon.addSpoon(1, 1);
                salon.restore();
                check.due("the snapshot", "0@1 0", Setting.list(salon) + " " + salon.spoonCount());
                check.refused("nothing to undo", IllegalStateException.class, salon::undo);
            }
            salon.restore();
            check.refused("nothing after nothing", IllegalStateException.class, salon::undo);
            salon.propose(2);
            check.due("a change since then", 0, salon.undo());
            check.due("the snapshot is untouched", "0@1", Setting.list(salon));
        });
        promises.test(heading, "Returns the number of spoons.", check -> {
            TeaspoonSalon salon = new TeaspoonSalon();
            salon.save();
            salon.addSpoon(1, 1);
            check.due("none", 0, salon.restore());
            for (int spoon = 0; spoon < 8; spoon++) {
                salon.addSpoon(1, 1);
            }
            salon.save();
            salon.undo();
            check.due("eight", 8, salon.restore());
        });
        promises.test(heading, "Throws `IllegalStateException` if there is no snapshot", check -> {
            TeaspoonSalon salon = Setting.withList(1);
            check.refused("none yet", IllegalStateException.class, salon::restore);
            check.due("the change can still be undone", 0, salon.undo());
            check.refused("none yet", IllegalStateException.class, salon::restore);
            salon.save();
            salon.propose(2);
            check.due("then", 0, salon.restore());
            check.due("the empty list", 0, salon.proposalCount());
        });
    }
}
