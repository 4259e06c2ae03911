import java.io.IOException;
import java.nio.file.Files;
import java.nio.file.Path;
import java.util.NoSuchElementException;

/** What README.md shows of the class, in its order, answers what the page says. */
public final class ReadmeTest {
    private static final Check CHECK = new Check();

    private static String page;

    public static void main(String[] args) throws IOException {
        page = Files.readString(Path.of("README.md"));
        TeaspoonSalon salon = new TeaspoonSalon();
        showsVote(salon);
        showsText(salon);
        showsScript(salon);
        CHECK.end();
    }

    /** A line that the page no longer has is to be dropped here too. */
    private static void due(String line, Object want, Object got) {
        CHECK.due("the page has " + line, true, page.contains(line));
        CHECK.due(line, want, got);
    }

    private static void showsVote(TeaspoonSalon salon) {
        due("salon.addSpoon(3, 40);              // weight 3, stance 40; answers its index, 0", 0, salon.addSpoon(3, 40));
        int id = salon.propose(50);
        due("salon.moveMain(id);", 1, salon.moveMain(id));
        due("salon.speak(0);", 1, salon.speak(0));
        due("boolean adopted = salon.vote();     // true: 50 is within 25 of 40", true, salon.vote());
        due("salon.undo();                       // the vote is taken back", 4, salon.undo());
        CHECK.due("motions after undo", 1, salon.motionCount());
    }

    private static void showsText(TeaspoonSalon salon) {
        int length = salon.renderTable();
        due("int length = salon.renderTable();   // \"m0\", so 2", 2, length);
        StringBuilder text = new StringBuilder();
        for (int index = 0; index < length; index++) {
            text.append(salon.outputAt(index));
        }
        due("System.out.print(salon.outputAt(index));", "m0", text.toString());
    }

    private static void showsScript(TeaspoonSalon salon) {
        String script = "vote;propose 7;spill 33 5;adjourn";
        due("for (char character : \"" + script + "\".toCharArray()) {", script.length(), Setting.type(salon, script));
        due("salon.runScript();              // 4, the number of commands", 4, salon.runScript());
        CHECK.refused("errorPosition", NoSuchElementException.class, salon::errorPosition);
        Setting.type(salon, "vote;mop 00");
        CHECK.refused("runScript, a dry cell", IllegalStateException.class, salon::runScript);
        due("salon.failedCommand();          // which command could not be done", 1, salon.failedCommand());
        CHECK.due("motions, as the script has no effect", 1, salon.motionCount());
        Setting.type(salon, "vote;");
        CHECK.refused("runScript, the end too early", IllegalArgumentException.class, salon::runScript);
        due("salon.errorPosition();          // where the text is no script", 5, salon.errorPosition());
        CHECK.due("the buffer is empty afterwards", 1, salon.type('v'));
    }
}
