import java.util.NoSuchElementException;

/** Promises 2, 9, 13 to 18, 43 and 47 to 49: spoons, their speeches and their sugar. */
public final class SpoonTest {
    private static final Check CHECK = new Check();

    public static void main(String[] args) {
        addSpoon();
        unknownSpoons();
        giveSugar();
        speak();
        speakWithoutSugar();
        speechesEndWithTheTable();
        spoonBySugar();
        sugarAndStances();
        CHECK.end();
    }

    private static void addSpoon() {
        TeaspoonSalon salon = new TeaspoonSalon();
        int[][] wrong = {{0, 0}, {10, 0}, {1, -1}, {1, 100}, {Integer.MIN_VALUE, 5}, {5, Integer.MAX_VALUE}};
        for (int[] spoon : wrong) {
            CHECK.refused("addSpoon", IllegalArgumentException.class, () -> salon.addSpoon(spoon[0], spoon[1]));
        }
        CHECK.due("spoonCount", 0, salon.spoonCount());
        CHECK.due("first spoon", 0, salon.addSpoon(1, 99));
        CHECK.due("second spoon", 1, salon.addSpoon(9, 0));
        for (int spoon = 2; spoon < 8; spoon++) {
            CHECK.due("spoon", spoon, salon.addSpoon(spoon, 10 * spoon));
        }
        CHECK.refused("ninth spoon", IllegalStateException.class, () -> salon.addSpoon(1, 1));
        CHECK.refused("wrong ninth spoon", IllegalArgumentException.class, () -> salon.addSpoon(0, 1));
        CHECK.due("spoonCount", 8, salon.spoonCount());
        CHECK.due("weights", "1 9 7", salon.weight(0) + " " + salon.weight(1) + " " + salon.weight(7));
        CHECK.due("stances", "99 0 70", salon.stance(0) + " " + salon.stance(1) + " " + salon.stance(7));
        CHECK.due("sugar", 5, salon.sugar(7));
        CHECK.due("speeches", 0, salon.speeches(7));
    }

    private static void unknownSpoons() {
        TeaspoonSalon salon = Setting.withSpoons(3, 40, 2, 60);
        for (int spoon : new int[] {-1, 2, 8, Integer.MIN_VALUE, Integer.MAX_VALUE}) {
            CHECK.refused("weight", IndexOutOfBoundsException.class, () -> salon.weight(spoon));
            CHECK.refused("stance", IndexOutOfBoundsException.class, () -> salon.stance(spoon));
            CHECK.refused("sugar", IndexOutOfBoundsException.class, () -> salon.sugar(spoon));
            CHECK.refused("speeches", IndexOutOfBoundsException.class, () -> salon.speeches(spoon));
            CHECK.refused("speak", IndexOutOfBoundsException.class, () -> salon.speak(spoon));
            CHECK.refused("votesYes", IndexOutOfBoundsException.class, () -> salon.votesYes(spoon));
            CHECK.refused("giveSugar", IndexOutOfBoundsException.class, () -> salon.giveSugar(spoon, 0));
        }
    }

    private static void giveSugar() {
        TeaspoonSalon salon = Setting.withSpoons(3, 40, 2, 60);
        for (int lumps : new int[] {0, 10, -1, Integer.MIN_VALUE, Integer.MAX_VALUE}) {
            CHECK.refused("giveSugar", IllegalArgumentException.class, () -> salon.giveSugar(0, lumps));
        }
        CHECK.due("giveSugar 1", 6, salon.giveSugar(1, 1));
        CHECK.due("giveSugar 9", 15, salon.giveSugar(1, 9));
        CHECK.due("sugar", 5, salon.sugar(0));
        CHECK.due("sugarTotal", 20, salon.sugarTotal());
        CHECK.due("sugarByAccounts", 20, salon.sugarByAccounts());
    }

    private static void speak() {
        TeaspoonSalon salon = Setting.withSpoons(1, 50, 1, 50);
        CHECK.refused("speak on nothing", IllegalStateException.class, () -> salon.speak(0));
        salon.moveAdjournment();
        CHECK.due("first speech", 1, salon.speak(0));
        CHECK.due("second speech", 2, salon.speak(0));
        CHECK.refused("third speech", IllegalStateException.class, () -> salon.speak(0));
        CHECK.due("speeches", "2 0", salon.speeches(0) + " " + salon.speeches(1));
        CHECK.due("sugar", "3 5", salon.sugar(0) + " " + salon.sugar(1));
        salon.undo();
        salon.undo();
        salon.vote();
        salon.propose(50);
        salon.moveMain(0);
        salon.speak(0);
        salon.speak(1);
        salon.moveClosure();
        CHECK.due("closed", true, salon.vote());
        CHECK.refused("speak after the closure", IllegalStateException.class, () -> salon.speak(1));
    }

    private static void speakWithoutSugar() {
        TeaspoonSalon salon = Setting.withSpoons(1, 50, 9, 50);
        for (int round = 0; round < 2; round++) {
            salon.moveAdjournment();
            salon.speak(0);
            salon.speak(0);
            CHECK.due("adjourn", false, salon.vote());
        }
        salon.moveAdjournment();
        CHECK.due("last lump", 1, salon.speak(0));
        CHECK.due("sugar", 0, salon.sugar(0));
        CHECK.refused("no lump", UnsupportedOperationException.class, () -> salon.speak(0));
        salon.giveSugar(0, 1);
        CHECK.due("a lump again", 2, salon.speak(0));
        CHECK.refused("spoken twice before no lump", IllegalStateException.class, () -> salon.speak(0));
        salon.vote();
        CHECK.refused("empty table before no lump", IllegalStateException.class, () -> salon.speak(0));
        CHECK.due("accounts", salon.sugarTotal(), salon.sugarByAccounts());
        CHECK.due("sugarTotal", 5, salon.sugarTotal());
    }

    private static void speechesEndWithTheTable() {
        TeaspoonSalon salon = Setting.withSpoons(1, 50);
        salon.propose(50);
        salon.moveMain(0);
        salon.speak(0);
        salon.moveAmendment(1);
        salon.vote();
        CHECK.due("a motion is left", 1, salon.speeches(0));
        salon.vote();
        CHECK.due("no motion is left", 0, salon.speeches(0));
    }

    private static void spoonBySugar() {
        TeaspoonSalon salon = Setting.withSpoons(2, 0, 7, 0, 2, 0, 7, 0, 1, 0);
        salon.giveSugar(4, 1);
        String order = "";
        for (int rank = 0; rank < 5; rank++) {
            order += salon.spoonBySugar(rank);
        }
        CHECK.due("sugar, weight, index", "41302", order);
        for (int rank : new int[] {-1, 5, 8, Integer.MIN_VALUE, Integer.MAX_VALUE}) {
            CHECK.refused("spoonBySugar", NoSuchElementException.class, () -> salon.spoonBySugar(rank));
        }
    }

    private static void sugarAndStances() {
        TeaspoonSalon salon = Setting.withSpoons(2, 10, 7, 11, 2, 11);
        CHECK.due("sugarTotal", 15, salon.sugarTotal());
        CHECK.due("sugarByAccounts", 15, salon.sugarByAccounts());
        CHECK.due("meanStance", 32.0 / 3.0, salon.meanStance());
        salon.propose(20);
        salon.moveMain(0);
        salon.speak(0);
        salon.vote();
        CHECK.due("sugarTotal after a speech and gains", 20, salon.sugarTotal());
        CHECK.due("sugarByAccounts after a speech and gains", 20, salon.sugarByAccounts());
        CHECK.due("isConsistent", true, salon.isConsistent());
    }
}
