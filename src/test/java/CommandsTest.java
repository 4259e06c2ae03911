import java.io.IOException;
import java.util.NoSuchElementException;

/** Promises 1 to 13, a new object and the methods for commands: a test for each sentence about what they answer. */
public final class CommandsTest {
    private static final String MOTIONS = "Returns the number of motions on the table.";
    private static final String NO_SPOON = "Throws `IndexOutOfBoundsException` if there is no such spoon";
    private static final String NO_CELL = "Throws `IndexOutOfBoundsException` if there is no such cell";
    private static final String NOT_NOW = "Throws `UnsupportedOperationException` if such a motion cannot be made now";

    public static void main(String[] args) throws IOException {
        Sentences promises = Sentences.ofPromises(1, 13);
        newObject(promises);
        addSpoon(promises);
        propose(promises);
        moveMain(promises);
        moveAmendment(promises);
        moveOthers(promises);
        speak(promises);
        vote(promises);
        spill(promises);
        mop(promises);
        giveSugar(promises);
        promises.end();
    }

    private static void newObject(Sentences promises) {
        promises.test("Promise 1", "Creates a salon without spoons and proposals, with an empty table and a dry cloth.",
                check -> {
            TeaspoonSalon salon = new TeaspoonSalon();
            check.due("spoons", "0 0 0", salon.spoonCount() + " " + salon.sugarTotal() + " " + salon.sugarByAccounts());
            check.due("proposals", "0 ", salon.proposalCount() + " " + Setting.list(salon));
            check.due("table", "0  false", salon.motionCount() + " " + Setting.table(salon) + " " + salon.isClosed());
            check.due("cloth", "0 0 0", salon.wetCells() + " " + salon.largestPuddle() + " " + salon.puddleCount());
            check.due("isConsistent", true, salon.isConsistent());
            TeaspoonSalon other = Setting.withSpoons(1, 1);
            other.spill(0, 0, 1);
            check.due("objects share nothing", "0 0", salon.spoonCount() + " " + salon.wetCells());
        });
    }

    private static void addSpoon(Sentences promises) {
        String heading = "Promise 2";
        promises.test(heading, "Returns the index of the spoon.", check -> {
            TeaspoonSalon salon = new TeaspoonSalon();
            for (int spoon = 0; spoon < 8; spoon++) {
                check.due("addSpoon", spoon, salon.addSpoon(1, 1));
            }
        });
        promises.test(heading, "Throws `IllegalArgumentException` if weight is not between 1 and 9, or stance is not "
                + "between 0 and 99", check -> {
            int[] weights = {Integer.MIN_VALUE, -1, 0, 1, 9, 10, Integer.MAX_VALUE};
            int[] stances = {Integer.MIN_VALUE, -1, 0, 99, 100, Integer.MAX_VALUE};
            for (int weight : weights) {
                for (int stance : stances) {
                    boolean isRight = (weight == 1 || weight == 9) && (stance == 0 || stance == 99);
                    Object want = isRight ? (Object) 0 : "throws IllegalArgumentException";
                    TeaspoonSalon salon = new TeaspoonSalon();
                    check.due(weight + " at " + stance, want, Check.answerOf(() -> salon.addSpoon(weight, stance)));
                    check.due("spoonCount", isRight ? 1 : 0, salon.spoonCount());
                }
            }
        });
        promises.test(heading, "Throws `IllegalStateException` if there are 8 spoons", check -> {
            TeaspoonSalon salon = Setting.withSpoons(1, 1, 1, 1, 1, 1, 1, 1, 1, 1, 1, 1, 1, 1);
            check.due("the eighth", 7, salon.addSpoon(1, 1));
            check.refused("the ninth", IllegalStateException.class, () -> salon.addSpoon(1, 1));
            check.refused("a wrong ninth", IllegalArgumentException.class, () -> salon.addSpoon(0, 1));
            check.due("spoonCount", 8, salon.spoonCount());
        });
    }

    private static void propose(Sentences promises) {
        String heading = "Promise 3";
        promises.test(heading, "Puts a proposal at the end of the list.", check -> {
            TeaspoonSalon salon = Setting.withList(4, 3);
            salon.propose(5);
            check.due("list", "0@4,1@3,2@5", Setting.list(salon));
            salon.moveMain(0);
            salon.vote();
            salon.propose(1);
            check.due("list", "1@3,2@5,3@1", Setting.list(salon));
        });
        promises.test(heading, "Returns the id of the proposal.", check -> {
            TeaspoonSalon salon = new TeaspoonSalon();
            for (int id = 0; id < 60; id++) {
                check.due("propose", id, salon.propose(id));
                check.due("position", id, salon.position(id));
                salon.moveMain(id);
                salon.vote();
            }
        });
        promises.test(heading, "Throws `IllegalArgumentException` if position is not between 0 and 99", check -> {
            TeaspoonSalon salon = new TeaspoonSalon();
            check.takesBelow(100, "propose", IllegalArgumentException.class, salon::propose);
            check.due("list", "0@0,1@99", Setting.list(salon));
        });
        promises.test(heading, "Throws `IllegalStateException` if 6 proposals are on the list", check -> {
            TeaspoonSalon salon = Setting.withList(1, 2, 3, 4, 5);
            check.due("the sixth", 5, salon.propose(6));
            check.refused("the seventh", IllegalStateException.class, () -> salon.propose(7));
            check.refused("a wrong seventh", IllegalArgumentException.class, () -> salon.propose(100));
            check.due("proposalCount", 6, salon.proposalCount());
        });
    }

    private static void moveMain(Sentences promises) {
        String heading = "Promise 4";
        promises.test(heading, MOTIONS, check -> check.due("moveMain", 1, Setting.withList(5).moveMain(0)));
        promises.test(heading, "Throws `NoSuchElementException` if no proposal with this id is on the list", check -> {
            TeaspoonSalon none = new TeaspoonSalon();
            check.takesBelow(0, "moveMain", NoSuchElementException.class, none::moveMain);
            TeaspoonSalon salon = Setting.propose(Setting.withSpoons(1, 50), 50, 99, 0);
            check.refused("not yet on the list", NoSuchElementException.class, () -> salon.moveMain(3));
            salon.moveMain(0);
            salon.vote();
            check.refused("in the minutes", NoSuchElementException.class, () -> salon.moveMain(0));
            salon.moveMain(1);
            salon.vote();
            check.refused("not adopted", NoSuchElementException.class, () -> salon.moveMain(1));
            check.due("the last one", 1, salon.moveMain(2));
            check.refused("unknown, and not now", NoSuchElementException.class, () -> salon.moveMain(1));
            TeaspoonSalon six = Setting.withList(1, 2, 3, 4, 5, 6);
            check.takesBelow(6, "moveMain", NoSuchElementException.class, id -> {
                six.moveMain(id);
                return six.undo();
            });
        });
        promises.test(heading, NOT_NOW, check -> {
            for (String table : new String[] {"m", "ma", "mp", "mc", "mj", "j", "mapcj"}) {
                TeaspoonSalon salon = Setting.move(Setting.withList(5, 6), table);
                check.refused("on " + table, UnsupportedOperationException.class, () -> salon.moveMain(1));
                check.due("motionCount", table.length(), salon.motionCount());
            }
        });
    }

    private static void moveAmendment(Sentences promises) {
        String heading = "Promise 5";
        promises.test(heading, MOTIONS, check -> check.due("moveAmendment", 2,
                Setting.move(Setting.withList(5), "m").moveAmendment(0)));
        promises.test(heading, "Throws `IllegalArgumentException` if change is not between -20 and 20", check -> {
            int[] changes = {Integer.MIN_VALUE, -22, -21, -20, -19, 0, 19, 20, 21, 22, Integer.MAX_VALUE};
            for (int change : changes) {
                TeaspoonSalon salon = Setting.move(Setting.withList(50), "m");
                boolean isRight = change >= -20 && change <= 20;
                Object want = isRight ? (Object) 2 : "throws IllegalArgumentException";
                check.due("moveAmendment " + change, want, Check.answerOf(() -> salon.moveAmendment(change)));
                check.due("motionCount", isRight ? 2 : 1, salon.motionCount());
                want = isRight ? "throws UnsupportedOperationException" : "throws IllegalArgumentException";
                TeaspoonSalon empty = new TeaspoonSalon();
                check.due("on nothing by " + change, want, Check.answerOf(() -> empty.moveAmendment(change)));
            }
        });
        promises.test(heading, NOT_NOW, check -> {
            for (String table : new String[] {"", "ma", "mp", "mc", "mj", "j", "mapcj"}) {
                TeaspoonSalon salon = Setting.move(Setting.withList(50), table);
                check.refused("on " + table, UnsupportedOperationException.class, () -> salon.moveAmendment(20));
            }
            TeaspoonSalon closed = Setting.move(Setting.withList(50), "mc");
            closed.vote();
            check.refused("on a closed m", UnsupportedOperationException.class, () -> closed.moveAmendment(20));
            closed.undo();
            closed.undo();
            check.due("before it was closed", 2, closed.moveAmendment(20));
        });
    }

    private static void moveOthers(Sentences promises) {
        moveOther(promises, "Promise 6", 'p', new String[] {"m", "ma"}, new String[] {"", "mp", "mc", "mj", "j", "mapc"});
        moveOther(promises, "Promise 7", 'c', new String[] {"m", "ma", "mp", "map"}, new String[] {"", "mc", "mj", "j"});
        moveOther(promises, "Promise 8", 'j', new String[] {"", "m", "ma", "mp", "mc", "mapc"},
                new String[] {"j", "mj", "maj", "mapcj"});
    }

    private static void moveOther(Sentences promises, String heading, char kind, String[] below, String[] against) {
        promises.test(heading, MOTIONS, check -> {
            for (String table : below) {
                TeaspoonSalon salon = Setting.move(Setting.withList(50), table);
                check.due(kind + " on " + table, table.length() + 1, Setting.move(salon, kind));
            }
        });
        promises.test(heading, NOT_NOW, check -> {
            for (String table : against) {
                TeaspoonSalon salon = Setting.move(Setting.withList(50), table);
                check.refused(kind + " on " + table, UnsupportedOperationException.class, () -> Setting.move(salon, kind));
                check.due("motionCount", table.length(), salon.motionCount());
            }
        });
    }

    private static void speak(Sentences promises) {
        String heading = "Promise 9";
        promises.test(heading, "Returns its number of speeches after the call.", check -> {
            TeaspoonSalon salon = Setting.move(Setting.withSpoons(1, 1, 1, 1), "j");
            check.due("first", 1, salon.speak(1));
            check.due("first of another", 1, salon.speak(0));
            check.due("second", 2, salon.speak(1));
        });
        promises.test(heading, NO_SPOON, check -> {
            for (int count = 0; count <= 8; count++) {
                TeaspoonSalon salon = new TeaspoonSalon();
                check.refused("without spoons and motions", IndexOutOfBoundsException.class, () -> salon.speak(0));
                for (int spoon = 0; spoon < count; spoon++) {
                    salon.addSpoon(1, 1);
                }
                salon.moveAdjournment();
                check.takesBelow(count, "speak", IndexOutOfBoundsException.class, salon::speak);
            }
        });
        promises.test(heading, "Throws `IllegalStateException` if the table is empty, the debate is closed, or the spoon "
                + "has spoken twice", check -> {
            TeaspoonSalon salon = Setting.propose(Setting.withSpoons(1, 50), 50);
            check.refused("an empty table", IllegalStateException.class, () -> salon.speak(0));
            Setting.move(salon, "m");
            salon.speak(0);
            Setting.move(salon, "c").vote();
            check.refused("closed", IllegalStateException.class, () -> salon.speak(0));
            salon.undo();
            check.due("not yet closed", 2, salon.speak(0));
            check.refused("twice", IllegalStateException.class, () -> salon.speak(0));
            check.due("sugar", 3, salon.sugar(0));
        });
        promises.test(heading, "Throws `UnsupportedOperationException` if it has no sugar", check -> {
            TeaspoonSalon salon = withoutSugar();
            salon.moveAdjournment();
            check.due("sugar", 0, salon.sugar(0));
            check.refused("no sugar", UnsupportedOperationException.class, () -> salon.speak(0));
            check.due("speeches", 0, salon.speeches(0));
            salon.giveSugar(0, 1);
            check.due("one lump", 1, salon.speak(0));
            check.refused("no sugar again", UnsupportedOperationException.class, () -> salon.speak(0));
            check.due("sugar", 0, salon.sugar(0));
            salon.vote();
            check.refused("an empty table comes first", IllegalStateException.class, () -> salon.speak(0));
        });
    }

    /** The first of two spoons has no sugar, and the table is empty. */
    private static TeaspoonSalon withoutSugar() {
        TeaspoonSalon salon = Setting.withSpoons(1, 50, 9, 50);
        for (int speech = 0; speech < 5; speech++) {
            salon.moveAdjournment();
            salon.speak(0);
            salon.vote();
        }
        return salon;
    }

    private static void vote(Sentences promises) {
        String heading = "Promise 10";
        promises.test(heading, "Returns true if it is adopted.", check -> {
            TeaspoonSalon salon = Setting.propose(Setting.withSpoons(2, 50, 2, 80), 50, 55, 60);
            salon.moveMain(0);
            check.due("half", false, salon.vote());
            salon.moveMain(1);
            check.due("all", true, salon.vote());
            check.due("the first one is not in the minutes", "1 1", salon.minutesCount() + " " + salon.minute(0));
        });
        promises.test(heading, "Throws `NoSuchElementException` if the table is empty", check -> {
            TeaspoonSalon salon = Setting.propose(Setting.withSpoons(1, 50), 50);
            check.refused("at first", NoSuchElementException.class, salon::vote);
            check.refused("no vote was counted", ArithmeticException.class, salon::adoptedShare);
            Setting.move(salon, "m").vote();
            check.refused("empty again", NoSuchElementException.class, salon::vote);
            check.due("one vote was counted", 1.0f, salon.adoptedShare());
        });
    }

    private static void spill(Sentences promises) {
        String heading = "Promise 11";
        promises.test(heading, "- `cells`: the number of cells that become wet, or of all dry cells if there are fewer",
                check -> {
            TeaspoonSalon salon = new TeaspoonSalon();
            salon.spill(0, 0, 30);
            salon.spill(0, 0, 30);
            check.due("three of four", 63, salon.spill(0, 0, 3));
            check.due("the corner is left", false, salon.isWet(7, 7));
            salon.undo();
            check.due("four of four", 64, salon.spill(0, 0, 4));
            salon.undo();
            check.due("five of four", 64, salon.spill(0, 0, 5));
            check.due("one of none", 64, salon.spill(0, 0, 1));
            check.due("thirty of none", 64, salon.spill(7, 7, 30));
        });
        promises.test(heading, "Returns the number of wet cells after the call.", check -> {
            for (int cells = 1; cells <= 30; cells++) {
                TeaspoonSalon salon = new TeaspoonSalon();
                check.due("on a dry cloth", cells, salon.spill(4, 4, cells));
                check.due("apart", cells + 1, salon.spill(0, 0, 1));
                check.due("wetCells", cells + 1, salon.wetCells());
            }
        });
        promises.test(heading, NO_CELL, check -> {
            TeaspoonSalon salon = new TeaspoonSalon();
            check.takesBelow(8, "spill at row", IndexOutOfBoundsException.class, row -> salon.spill(row, 0, 1));
            check.takesBelow(8, "spill at column", IndexOutOfBoundsException.class, column -> salon.spill(7, column, 1));
            check.takesBelow(0, "spill at neither", IndexOutOfBoundsException.class,
                    index -> salon.spill(index < 0 ? index : 8, index, 1));
            check.refused("no cell, no cells", IndexOutOfBoundsException.class, () -> salon.spill(0, 8, 0));
            check.due("wetCells", 4, salon.wetCells());
        });
        promises.test(heading, "Throws `IllegalArgumentException` if cells is not between 1 and 30", check -> {
            int[] numbers = {Integer.MIN_VALUE, -1, 0, 1, 30, 31, 64, Integer.MAX_VALUE};
            for (int cells : numbers) {
                TeaspoonSalon salon = new TeaspoonSalon();
                boolean isRight = cells == 1 || cells == 30;
                Object want = isRight ? (Object) cells : "throws IllegalArgumentException";
                check.due("spill " + cells, want, Check.answerOf(() -> salon.spill(3, 3, cells)));
                check.due("wetCells", isRight ? cells : 0, salon.wetCells());
            }
        });
    }

    private static void mop(Sentences promises) {
        String heading = "Promise 12";
        promises.test(heading, "Returns the number of cells of the puddle.", check -> {
            TeaspoonSalon salon = new TeaspoonSalon();
            salon.spill(0, 0, 1);
            check.due("one", 1, salon.mop(0, 0));
            salon.spill(0, 0, 30);
            salon.spill(7, 7, 30);
            salon.spill(7, 7, 30);
            check.due("all", 64, salon.mop(7, 7));
            check.due("wetCells", 0, salon.wetCells());
            salon.spill(0, 0, 3);
            salon.spill(7, 7, 6);
            check.due("the one of two", 6, salon.mop(7, 6));
            check.due("the other is left", 3, salon.puddle(0, 0));
        });
        promises.test(heading, NO_CELL, check -> {
            TeaspoonSalon salon = new TeaspoonSalon();
            check.takesBelow(8, "mop at row", IndexOutOfBoundsException.class, row -> spiltAndMopped(salon, row, 7));
            check.takesBelow(8, "mop at column", IndexOutOfBoundsException.class, column -> spiltAndMopped(salon, 7, column));
            check.takesBelow(0, "mop at neither", IndexOutOfBoundsException.class,
                    index -> salon.mop(index < 0 ? index : 8, index));
        });
        promises.test(heading, "Throws `IllegalStateException` if the cell is dry", check -> {
            TeaspoonSalon salon = new TeaspoonSalon();
            check.refused("a dry cloth", IllegalStateException.class, () -> salon.mop(0, 0));
            salon.spill(3, 3, 5);
            check.refused("beside a puddle", IllegalStateException.class, () -> salon.mop(2, 2));
            check.refused("over the edge of the row", IllegalStateException.class, () -> salon.mop(3, 5));
            check.due("mop", 5, salon.mop(3, 2));
            check.refused("mopped", IllegalStateException.class, () -> salon.mop(3, 2));
        });
    }

    private static int spiltAndMopped(TeaspoonSalon salon, int row, int column) {
        if (row >= 0 && row < 8 && column >= 0 && column < 8) {
            salon.spill(row, column, 1);
        }
        return salon.mop(row, column);
    }

    private static void giveSugar(Sentences promises) {
        String heading = "Promise 13";
        promises.test(heading, "Returns its number of lumps after the call.", check -> {
            TeaspoonSalon salon = withoutSugar();
            check.due("from none", 1, salon.giveSugar(0, 1));
            check.due("from one", 10, salon.giveSugar(0, 9));
            check.due("another", 9, salon.giveSugar(1, 4));
        });
        promises.test(heading, NO_SPOON, check -> {
            for (int count = 0; count <= 8; count++) {
                TeaspoonSalon salon = new TeaspoonSalon();
                for (int spoon = 0; spoon < count; spoon++) {
                    salon.addSpoon(1, 1);
                }
                check.takesBelow(count, "giveSugar", IndexOutOfBoundsException.class, spoon -> salon.giveSugar(spoon, 1));
            }
            TeaspoonSalon salon = new TeaspoonSalon();
            check.refused("no spoon, no lumps", IndexOutOfBoundsException.class, () -> salon.giveSugar(0, 0));
        });
        promises.test(heading, "Throws `IllegalArgumentException` if lumps is not between 1 and 9", check -> {
            TeaspoonSalon salon = Setting.withSpoons(1, 50);
            int[] wrong = {Integer.MIN_VALUE, -1, 0, 10, Integer.MAX_VALUE};
            for (int lumps : wrong) {
                check.refused("giveSugar " + lumps, IllegalArgumentException.class, () -> salon.giveSugar(0, lumps));
            }
            check.due("sugar", 5, salon.sugar(0));
            check.due("least", 6, salon.giveSugar(0, 1));
            check.due("most", 15, salon.giveSugar(0, 9));
        });
    }
}
