import java.util.List;
import java.util.NoSuchElementException;

/** Promises 59 to 61: undo and the snapshot. */
public final class ChangesTest {
    private static final Check CHECK = new Check();

    public static void main(String[] args) {
        undoEveryCommand();
        eightChanges();
        undoAndGoOn();
        refusedCallsAreNoChanges();
        scriptIsOneChange();
        minutesThatWereWrittenOver();
        whatUndoLeaves();
        changesWithoutEffect();
        snapshot();
        snapshotLeaves();
        CHECK.end();
    }

    private static List<Check.Call> commands(TeaspoonSalon salon) {
        return List.of(
                () -> salon.addSpoon(3, 40), () -> salon.propose(30), () -> salon.propose(99),
                () -> salon.moveMain(0), () -> salon.speak(0), () -> salon.moveAmendment(5), salon::vote,
                salon::moveClosure, salon::vote, salon::vote, () -> salon.moveMain(1), salon::movePostponement,
                salon::vote, salon::moveAdjournment, () -> salon.speak(0), () -> salon.spill(2, 2, 25),
                () -> salon.mop(2, 2), () -> salon.giveSugar(0, 4), () -> Setting.run(salon, "spill 11 3;propose 1"));
    }

    /** A salon after the first so many commands. */
    private static TeaspoonSalon after(int count) {
        TeaspoonSalon salon = new TeaspoonSalon();
        for (Check.Call command : commands(salon).subList(0, count)) {
            command.answer();
        }
        return salon;
    }

    private static void undoEveryCommand() {
        int all = commands(new TeaspoonSalon()).size();
        for (int count = 1; count <= all; count++) {
            String before = Setting.portrait(after(count - 1));
            String changed = Setting.portrait(after(count));
            CHECK.due("change " + count + " changes something", false, before.equals(changed));
            TeaspoonSalon salon = after(count);
            salon.undo();
            CHECK.due("undo of change " + count, before, Setting.portrait(salon));
            commands(salon).get(count - 1).answer();
            CHECK.due("change " + count + " again", changed, Setting.portrait(salon));
        }
        for (int undone = 1; undone <= 8; undone++) {
            TeaspoonSalon salon = after(all);
            int left = 0;
            for (int change = 0; change < undone; change++) {
                left = salon.undo();
            }
            CHECK.due("undo", 8 - undone, left);
            CHECK.due("portrait", Setting.portrait(after(all - undone)), Setting.portrait(salon));
        }
    }

    private static void eightChanges() {
        TeaspoonSalon salon = new TeaspoonSalon();
        salon.addSpoon(1, 1);
        CHECK.due("undo of one", 0, salon.undo());
        CHECK.refused("undo of none", IllegalStateException.class, salon::undo);
        for (int change = 0; change < 20; change++) {
            salon.spill(0, 0, 1);
        }
        for (int left = 7; left >= 0; left--) {
            CHECK.due("undo", left, salon.undo());
            CHECK.due("wetCells", 12 + left, salon.wetCells());
        }
        CHECK.refused("undo", IllegalStateException.class, salon::undo);
        CHECK.due("wetCells", 12, salon.wetCells());
    }

    private static void undoAndGoOn() {
        TeaspoonSalon salon = new TeaspoonSalon();
        for (int change = 0; change < 10; change++) {
            salon.spill(0, 0, 1);
        }
        salon.undo();
        salon.undo();
        CHECK.due("undo", 5, salon.undo());
        CHECK.due("the ids begin", 0, salon.propose(5));
        CHECK.due("undo", 5, salon.undo());
        CHECK.due("the next id is taken back", 0, salon.propose(6));
        CHECK.due("wetCells", 7, salon.wetCells());
        CHECK.due("undo", 5, salon.undo());
        CHECK.due("undo", 4, salon.undo());
        CHECK.due("wetCells", 6, salon.wetCells());
    }

    private static List<Check.Call> wrongCalls(TeaspoonSalon salon) {
        return List.of(
                () -> salon.addSpoon(0, 0), () -> salon.propose(100), () -> salon.moveMain(0),
                () -> salon.moveAmendment(1), salon::movePostponement, salon::moveClosure, () -> salon.speak(0),
                salon::vote, () -> salon.spill(0, 0, 0), () -> salon.mop(0, 0), () -> salon.giveSugar(0, 0),
                salon::runScript, () -> Setting.run(salon, "vote"));
    }

    private static void refusedCallsAreNoChanges() {
        String before = Setting.portrait(Setting.withSpoons(1, 50));
        for (int wrong = 0; wrong < wrongCalls(new TeaspoonSalon()).size(); wrong++) {
            TeaspoonSalon salon = Setting.withSpoons(1, 50);
            Object answer = Check.answerOf(wrongCalls(salon).get(wrong));
            CHECK.due("refused", true, String.valueOf(answer).startsWith("throws "));
            CHECK.due("portrait", before, Setting.portrait(salon));
            salon.isConsistent();
            salon.renderList();
            salon.type('v');
            salon.save();
            CHECK.due("one change alone", 0, salon.undo());
        }
    }

    private static void scriptIsOneChange() {
        TeaspoonSalon salon = new TeaspoonSalon();
        salon.propose(9);
        Setting.run(salon, "spoon 1 1;propose 5;spill 00 9;move 1;vote");
        CHECK.due("undo of a script", 1, salon.undo());
        CHECK.due("all of it", "0 1 0 0",
                salon.spoonCount() + " " + salon.proposalCount() + " " + salon.wetCells() + " " + salon.motionCount());
        CHECK.due("the next id", 1, salon.propose(1));
    }

    private static void minutesThatWereWrittenOver() {
        TeaspoonSalon salon = Setting.withSpoons(1, 50);
        for (int id = 0; id < 21; id++) {
            salon.propose(50);
            salon.moveMain(id);
            salon.vote();
        }
        CHECK.refused("minute", NoSuchElementException.class, () -> salon.minute(0));
        salon.undo();
        CHECK.due("minutesCount", 20, salon.minutesCount());
        CHECK.due("minute", 0, salon.minute(0));
        CHECK.due("minute", 19, salon.minute(19));
    }

    private static void whatUndoLeaves() {
        TeaspoonSalon salon = new TeaspoonSalon();
        salon.propose(77);
        salon.save();
        Check.answerOf(() -> Setting.run(salon, "vote"));
        Check.answerOf(() -> Setting.run(salon, "vot"));
        salon.renderList();
        Setting.type(salon, "propose ");
        salon.undo();
        CHECK.due("the script buffer", 9, Setting.type(salon, "7"));
        CHECK.due("the error position", 3, salon.errorPosition());
        CHECK.due("the failed command", 0, salon.failedCommand());
        CHECK.due("the output text", '7', salon.outputAt(3));
        CHECK.due("the script", 1, salon.runScript());
        CHECK.due("position", 7, salon.position(0));
        salon.restore();
        CHECK.due("the snapshot", 77, salon.position(0));
    }

    private static void changesWithoutEffect() {
        TeaspoonSalon salon = new TeaspoonSalon();
        for (int spill = 0; spill < 3; spill++) {
            salon.spill(0, 0, 30);
        }
        salon.moveAdjournment();
        salon.vote();
        CHECK.due("a vote against", 4, salon.undo());
        CHECK.due("motionCount", 1, salon.motionCount());
        CHECK.due("of three", 3, salon.undo());
    }

    private static void snapshot() {
        TeaspoonSalon salon = new TeaspoonSalon();
        CHECK.refused("restore", IllegalStateException.class, salon::restore);
        for (Check.Call command : commands(salon).subList(0, 16)) {
            command.answer();
        }
        String before = Setting.portrait(salon);
        CHECK.due("save", 1, salon.save());
        salon.addSpoon(9, 9);
        salon.propose(3);
        salon.mop(2, 2);
        salon.moveAdjournment();
        CHECK.due("restore", 1, salon.restore());
        CHECK.due("portrait", before, Setting.portrait(salon));
        CHECK.refused("nothing to undo", IllegalStateException.class, salon::undo);
        CHECK.due("the next id", 2, salon.propose(4));
        CHECK.due("one change", 0, salon.undo());
        salon.addSpoon(9, 9);
        CHECK.due("restore again", 1, salon.restore());
        CHECK.due("portrait", before, Setting.portrait(salon));
        salon.addSpoon(9, 9);
        CHECK.due("save replaces", 2, salon.save());
        CHECK.due("save is no change", 0, salon.undo());
        CHECK.due("restore the later one", 2, salon.restore());
    }

    private static void snapshotLeaves() {
        TeaspoonSalon salon = new TeaspoonSalon();
        salon.propose(12);
        salon.save();
        salon.renderList();
        Setting.type(salon, "vote");
        CHECK.refused("runScript", IllegalStateException.class, salon::runScript);
        CHECK.refused("errorPosition", NoSuchElementException.class, salon::errorPosition);
        Setting.type(salon, "vot");
        salon.restore();
        CHECK.due("the script buffer", 4, Setting.type(salon, ";"));
        CHECK.due("the output text", '2', salon.outputAt(3));
        CHECK.refused("runScript", IllegalArgumentException.class, salon::runScript);
        salon.restore();
        CHECK.due("the error position", 3, salon.errorPosition());
        CHECK.due("the failed command", 0, salon.failedCommand());
    }
}
