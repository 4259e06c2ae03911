import java.util.NoSuchElementException;

/** Promises 10, 28 to 30, 44 to 46 and 50: votes and their effects. */
public final class VoteTest {
    private static final Check CHECK = new Check();

    public static void main(String[] args) {
        emptyTable();
        mainMotion();
        halfIsNotEnough();
        amendment();
        amendmentAtTheEnds();
        postponement();
        closure();
        adjournment();
        withoutSpoons();
        minutes();
        adoptedShare();
        CHECK.end();
    }

    private static String voters(TeaspoonSalon salon) {
        StringBuilder voters = new StringBuilder();
        for (int spoon = 0; spoon < salon.spoonCount(); spoon++) {
            voters.append(salon.votesYes(spoon) ? 'y' : 'n');
        }
        return voters.toString();
    }

    /** Checks what is asked before the vote, and that the vote keeps to it. */
    private static void expect(TeaspoonSalon salon, String voters, int yes, boolean adopted) {
        CHECK.due("votesYes", voters, voters(salon));
        CHECK.due("yesVotes", yes, salon.yesVotes());
        CHECK.due("wouldPass", adopted, salon.wouldPass());
        CHECK.due("vote", adopted, salon.vote());
    }

    private static void emptyTable() {
        TeaspoonSalon salon = Setting.withSpoons(1, 50);
        CHECK.refused("vote", NoSuchElementException.class, salon::vote);
        CHECK.refused("yesVotes", NoSuchElementException.class, salon::yesVotes);
        CHECK.refused("wouldPass", NoSuchElementException.class, salon::wouldPass);
        CHECK.refused("votesYes", NoSuchElementException.class, () -> salon.votesYes(0));
        CHECK.refused("votesYes of none", IndexOutOfBoundsException.class, () -> salon.votesYes(1));
        CHECK.refused("no vote was counted", ArithmeticException.class, salon::adoptedShare);
    }

    private static void mainMotion() {
        TeaspoonSalon salon = Setting.withSpoons(1, 24, 2, 25, 4, 75, 8, 76);
        salon.propose(50);
        salon.propose(99);
        salon.moveMain(0);
        expect(salon, "nyyn", 6, false);
        CHECK.due("removed", "1@99", Setting.list(salon));
        CHECK.due("minutes", 0, salon.minutesCount());
        CHECK.due("no gain", 20, salon.sugarTotal());
        salon.moveMain(1);
        expect(salon, "nnyy", 12, true);
        CHECK.due("removed", "", Setting.list(salon));
        CHECK.due("minute", 1, salon.minute(0));
        CHECK.due("gain", "5 5 7 7",
                salon.sugar(0) + " " + salon.sugar(1) + " " + salon.sugar(2) + " " + salon.sugar(3));
        CHECK.due("empty table", 0, salon.motionCount());
    }

    private static void halfIsNotEnough() {
        TeaspoonSalon salon = Setting.withSpoons(3, 50, 3, 0);
        salon.propose(50);
        salon.moveMain(0);
        expect(salon, "yn", 3, false);
    }

    private static void amendment() {
        TeaspoonSalon salon = Setting.withSpoons(1, 55, 2, 56, 4, 90, 1, 50);
        salon.propose(50);
        salon.moveMain(0);
        salon.moveAmendment(10);
        expect(salon, "nyyn", 6, true);
        CHECK.due("position", 60, salon.position(0));
        CHECK.due("the main motion is left", "m0", Setting.table(salon));
        salon.moveAmendment(-20);
        expect(salon, "nnnn", 0, false);
        salon.moveAmendment(-10);
        expect(salon, "nnny", 1, false);
        CHECK.due("position", 60, salon.position(0));
        salon.moveAmendment(0);
        expect(salon, "nnnn", 0, false);
    }

    private static void amendmentAtTheEnds() {
        TeaspoonSalon salon = Setting.withSpoons(1, 0);
        salon.propose(5);
        salon.moveMain(0);
        salon.moveAmendment(-20);
        expect(salon, "y", 1, true);
        CHECK.due("position", 0, salon.position(0));
        salon.moveAmendment(-1);
        expect(salon, "n", 0, false);
        TeaspoonSalon other = Setting.withSpoons(1, 99);
        other.propose(85);
        other.moveMain(0);
        other.moveAmendment(20);
        expect(other, "y", 1, true);
        CHECK.due("position", 99, other.position(0));
    }

    private static void postponement() {
        TeaspoonSalon salon = Setting.withSpoons(1, 25, 2, 24, 4, 76);
        salon.propose(50);
        salon.propose(1);
        salon.propose(2);
        salon.moveMain(0);
        salon.speak(0);
        salon.moveAmendment(1);
        salon.movePostponement();
        expect(salon, "nyy", 6, true);
        CHECK.due("empty table", 0, salon.motionCount());
        CHECK.due("at the end", "1@1,2@2,0@50", Setting.list(salon));
        CHECK.due("no speeches", 0, salon.speeches(0));
        CHECK.due("no gain", 14, salon.sugarTotal());
        salon.moveMain(1);
        salon.movePostponement();
        expect(salon, "nny", 4, true);
        salon.moveMain(0);
        salon.undo();
        salon.addSpoon(9, 50);
        salon.moveMain(0);
        salon.movePostponement();
        expect(salon, "nyyn", 6, false);
        CHECK.due("the main motion is left", "m0", Setting.table(salon));
    }

    private static void closure() {
        TeaspoonSalon salon = Setting.withSpoons(2, 50, 2, 50, 2, 50);
        salon.propose(50);
        salon.moveMain(0);
        salon.speak(2);
        salon.moveClosure();
        expect(salon, "nny", 2, false);
        CHECK.due("open", false, salon.isClosed());
        salon.speak(0);
        salon.moveClosure();
        expect(salon, "yny", 4, true);
        CHECK.due("two thirds close", true, salon.isClosed());
        CHECK.due("the main motion is left", "m0!", Setting.table(salon));
        salon.addSpoon(1, 50);
        salon.moveClosure();
        expect(salon, "ynyn", 4, false);
        CHECK.due("stays closed", true, salon.isClosed());
        salon.vote();
        CHECK.due("speeches", 0, salon.speeches(2));
    }

    private static void adjournment() {
        TeaspoonSalon salon = Setting.withSpoons(3, 50, 2, 50);
        salon.propose(50);
        salon.moveMain(0);
        salon.speak(0);
        salon.speak(0);
        salon.moveAdjournment();
        expect(salon, "nn", 0, false);
        CHECK.due("sittings", 0, salon.sittings());
        salon.movePostponement();
        salon.vote();
        salon.moveClosure();
        salon.vote();
        salon.vote();
        salon.moveAdjournment();
        CHECK.due("speeches", 0, salon.speeches(0));
        CHECK.due("sugar", 5, salon.sugar(0));
        salon.speak(0);
        salon.speak(0);
        CHECK.due("three lumps", false, salon.wouldPass());
        salon.vote();
        salon.propose(1);
        salon.moveMain(1);
        salon.moveAmendment(2);
        salon.speak(0);
        salon.moveAdjournment();
        expect(salon, "yn", 3, true);
        CHECK.due("sittings", 1, salon.sittings());
        CHECK.due("empty table", 0, salon.motionCount());
        CHECK.due("the list stays", "1@1", Setting.list(salon));
        CHECK.due("speeches", 0, salon.speeches(0));
    }

    private static void withoutSpoons() {
        TeaspoonSalon salon = new TeaspoonSalon();
        salon.propose(50);
        salon.moveMain(0);
        salon.moveAmendment(1);
        expect(salon, "", 0, false);
        salon.movePostponement();
        expect(salon, "", 0, false);
        salon.moveClosure();
        expect(salon, "", 0, true);
        salon.moveAdjournment();
        expect(salon, "", 0, false);
        expect(salon, "", 0, false);
    }

    private static void minutes() {
        TeaspoonSalon salon = Setting.withSpoons(1, 50);
        for (int id = 0; id < 23; id++) {
            salon.propose(id == 1 ? 0 : 50);
            salon.moveMain(id);
            salon.vote();
            CHECK.due("minutesCount", id == 0 ? 1 : id, salon.minutesCount());
        }
        for (int place : new int[] {-1, 0, 1, 22, 23, Integer.MIN_VALUE, Integer.MAX_VALUE}) {
            CHECK.refused("minute", NoSuchElementException.class, () -> salon.minute(place));
        }
        for (int place = 2; place < 22; place++) {
            CHECK.due("minute " + place, place + 1, salon.minute(place));
        }
    }

    private static void adoptedShare() {
        TeaspoonSalon salon = Setting.withSpoons(1, 50);
        salon.propose(50);
        salon.moveMain(0);
        salon.moveAmendment(0);
        salon.vote();
        CHECK.due("none of one", 0.0f, salon.adoptedShare());
        salon.moveAdjournment();
        salon.vote();
        salon.vote();
        CHECK.due("one of three", 1.0f / 3.0f, salon.adoptedShare());
        salon.undo();
        CHECK.due("none of two", 0.0f, salon.adoptedShare());
    }
}
