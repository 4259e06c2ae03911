import java.util.NoSuchElementException;

/** Promises 55 to 58: scripts. */
public final class ScriptTest {
    private static final Check CHECK = new Check();

    public static void main(String[] args) {
        type();
        everyCommand();
        manyCommands();
        wrongForms();
        failedCommands();
        latestAnswersStay();
        CHECK.end();
    }

    private static void type() {
        TeaspoonSalon salon = new TeaspoonSalon();
        for (char character : new char[] {0, 31, 127, 160, 0xffff}) {
            CHECK.refused("type", IllegalArgumentException.class, () -> salon.type(character));
        }
        CHECK.due("type 32", 1, salon.type(' '));
        CHECK.due("type 126", 2, salon.type('~'));
        for (int length = 3; length <= 60; length++) {
            CHECK.due("type", length, salon.type('x'));
        }
        CHECK.refused("full", IllegalStateException.class, () -> salon.type('x'));
        CHECK.refused("full and wrong", IllegalArgumentException.class, () -> salon.type((char) 127));
        CHECK.refused("runScript", IllegalArgumentException.class, salon::runScript);
        CHECK.due("the buffer is empty", 1, salon.type('v'));
    }

    private static void everyCommand() {
        TeaspoonSalon salon = new TeaspoonSalon();
        CHECK.due("three", 3, Setting.run(salon, "spoon 9 7;spoon 1 99;propose 30"));
        CHECK.due("spoons", "9 7 1 99",
                salon.weight(0) + " " + salon.stance(0) + " " + salon.weight(1) + " " + salon.stance(1));
        CHECK.due("four", 4, Setting.run(salon, "move 0;speak 0;amend -20;vote"));
        CHECK.due("amended", 10, salon.position(0));
        CHECK.due("speeches", 1, salon.speeches(0));
        CHECK.due("motions", 4, Setting.run(salon, "amend 5;postpone;close;adjourn"));
        CHECK.due("table", "m0a5pcj", Setting.table(salon));
        CHECK.due("cloth", 3, Setting.run(salon, "spill 70 12;spill 07 1;mop 70"));
        CHECK.due("wetCells", 1, salon.wetCells());
        CHECK.due("isWet", true, salon.isWet(0, 7));
        CHECK.due("sugar", 1, Setting.run(salon, "sugar 1 9"));
        CHECK.due("sugar", 14, salon.sugar(1));
        CHECK.due("leading zeros", 2, Setting.run(salon, "propose 00;propose 05"));
        CHECK.due("list", "0@10,1@0,2@5", Setting.list(salon));
        TeaspoonSalon other = new TeaspoonSalon();
        CHECK.due("no change", 4, Setting.run(other, "propose 5;propose 6;move 1;amend -0"));
        CHECK.due("mainProposal", 1, other.mainProposal());
        CHECK.due("amendment", 0, other.amendment());
    }

    private static void manyCommands() {
        TeaspoonSalon salon = new TeaspoonSalon();
        CHECK.due("eight", 8, Setting.run(salon, "adjourn;vote;adjourn;vote;adjourn;vote;adjourn;vote"));
        salon.propose(50);
        Setting.run(salon, "move 0;amend 1;postpone;close;adjourn");
        CHECK.due("twelve is the most", "throws IllegalStateException",
                Check.answerOf(() -> Setting.run(salon, "vote;vote;vote;vote;vote;vote;vote;vote;vote;vote;vote;vote")));
        CHECK.due("failed", 5, salon.failedCommand());
        CHECK.due("twelve and a semicolon", 60, errorOf("vote;vote;vote;vote;vote;vote;vote;vote;vote;vote;vote;vote;"));
    }

    private static Object errorOf(String script) {
        TeaspoonSalon salon = new TeaspoonSalon();
        CHECK.refused(script, IllegalArgumentException.class, () -> Setting.run(salon, script));
        CHECK.refused("failedCommand", NoSuchElementException.class, salon::failedCommand);
        CHECK.refused("undo", IllegalStateException.class, salon::undo);
        return Check.answerOf(salon::errorPosition);
    }

    private static void wrongForms() {
        Object[][] errors = {
            {"", 0}, {" ", 0}, {";", 0}, {"x", 0}, {"V", 0}, {"s", 1}, {"sx", 1}, {"sp", 2}, {"spx", 2}, {"spo", 3},
            {"spoon", 5}, {"spoon5", 5}, {"spoon  5", 6}, {"spoon 5", 7}, {"spoon 55", 7}, {"spoon 5 ", 8},
            {"spoon 5 x", 8}, {"spoon 5 4x", 9}, {"spoon 5 400", 10}, {"spoon 5 40 ", 10}, {"spoon -5 4", 6},
            {"propose", 7}, {"propose ", 8}, {"propose -1", 8}, {"propose 123", 10}, {"pr", 2}, {"po", 2}, {"px", 1},
            {"move 1 ", 6}, {"mo", 2}, {"mop", 3}, {"mop 1", 5}, {"mop 1 2", 5}, {"mop 12x", 6}, {"mox", 2},
            {"amend", 5}, {"amend -", 7}, {"amend --1", 7}, {"amend +1", 6}, {"amend 1-", 7}, {"amend -201", 9},
            {"a", 1}, {"ad", 2}, {"adjourn ", 7}, {"adjourns", 7}, {"postpone1", 8}, {"postpon", 7}, {"close!", 5},
            {"speak", 5}, {"speak a", 6}, {"speak 12", 7}, {"spe", 3}, {"spi", 3}, {"spill 1", 7}, {"spill 1 2", 7},
            {"spill 12", 8}, {"spill 12 ", 9}, {"spill 123", 8}, {"spill 12 345", 11}, {"sugar 1", 7}, {"su", 2},
            {"sugar 1 23", 9}, {"sugar 12", 7}, {"vote;", 5}, {"vote;;vote", 5}, {"vote; vote", 5}, {"vote vote", 4},
            {"vote;vote;x", 10}, {"vote;propose 12;mop 3", 21}, {"votevote", 4}, {"spoon 0 0;propose 0;moo", 22},
        };
        for (Object[] error : errors) {
            CHECK.due("errorPosition of " + error[0], error[1], errorOf((String) error[0]));
        }
    }

    private static void failedCommands() {
        String[] failing = {
            "spoon 0 5", "move 0", "move 99", "amend 21", "amend 1", "postpone", "close", "speak 0", "vote",
            "spill 80 1", "spill 08 1", "spill 00 0", "spill 00 31", "mop 00", "mop 99", "sugar 0 1",
        };
        for (String command : failing) {
            TeaspoonSalon salon = new TeaspoonSalon();
            String before = Setting.portrait(salon);
            Setting.type(salon, "propose 5;spill 44 9;" + command + ";vote");
            if (command.equals("move 0")) {
                CHECK.due("this one is there", 4, salon.runScript());
                continue;
            }
            CHECK.refused(command, IllegalStateException.class, salon::runScript);
            CHECK.due("failedCommand", 2, salon.failedCommand());
            CHECK.due("nothing took effect", before, Setting.portrait(salon));
            CHECK.refused("no change", IllegalStateException.class, salon::undo);
            CHECK.refused("no wrong form", NoSuchElementException.class, salon::errorPosition);
            CHECK.due("the next id", 0, salon.propose(1));
            CHECK.due("the buffer is empty", 1, salon.type('v'));
        }
    }

    private static void latestAnswersStay() {
        TeaspoonSalon salon = new TeaspoonSalon();
        CHECK.refused("form", IllegalArgumentException.class, () -> Setting.run(salon, "spoon x"));
        CHECK.refused("command", IllegalStateException.class, () -> Setting.run(salon, "spoon 1 1;vote"));
        Setting.run(salon, "spoon 1 1");
        CHECK.due("errorPosition", 6, salon.errorPosition());
        CHECK.due("failedCommand", 1, salon.failedCommand());
        CHECK.refused("command", IllegalStateException.class, () -> Setting.run(salon, "vote"));
        CHECK.due("failedCommand", 0, salon.failedCommand());
        CHECK.due("errorPosition", 6, salon.errorPosition());
        CHECK.refused("form", IllegalArgumentException.class, salon::runScript);
        CHECK.due("errorPosition", 0, salon.errorPosition());
        CHECK.due("failedCommand", 0, salon.failedCommand());
    }
}
