import java.util.NoSuchElementException;

/** Promises 4 to 8, 22 to 27 and 52: motions on the table. */
public final class TableTest {
    private static final Check CHECK = new Check();
    private static final String KINDS = "mapcj";

    public static void main(String[] args) {
        emptyTable();
        moveMain();
        amendmentRange();
        ranks();
        onlyAdjournment();
        closedDebate();
        reading();
        unknownKinds();
        CHECK.end();
    }

    /** The kinds that can be made now, asked for and tried; what is made is taken back. */
    private static String movable(TeaspoonSalon salon) {
        StringBuilder kinds = new StringBuilder();
        for (int rank = 0; rank < KINDS.length(); rank++) {
            char kind = KINDS.charAt(rank);
            boolean asked = salon.canMove(kind);
            boolean made = salon.proposalCount() > 0 || kind != 'm' ? tried(salon, kind) : false;
            CHECK.due("canMove and moving " + kind, made, asked);
            if (asked) {
                kinds.append(kind);
            }
        }
        return kinds.toString();
    }

    private static boolean tried(TeaspoonSalon salon, char kind) {
        int count = salon.motionCount();
        Object answer = Check.answerOf(() -> made(salon, kind));
        if ("throws UnsupportedOperationException".equals(answer)) {
            CHECK.due("motionCount", count, salon.motionCount());
            return false;
        }
        CHECK.due("motions with " + kind, count + 1, answer);
        salon.undo();
        return true;
    }

    private static int made(TeaspoonSalon salon, char kind) {
        switch (kind) {
            case 'm':
                return salon.moveMain(salon.proposalAt(0));
            case 'a':
                return salon.moveAmendment(-20);
            case 'p':
                return salon.movePostponement();
            case 'c':
                return salon.moveClosure();
            default:
                return salon.moveAdjournment();
        }
    }

    private static void emptyTable() {
        TeaspoonSalon salon = new TeaspoonSalon();
        CHECK.due("without proposals", "j", movable(salon));
        salon.propose(50);
        CHECK.due("with a proposal", "mj", movable(salon));
    }

    private static void moveMain() {
        TeaspoonSalon salon = new TeaspoonSalon();
        salon.propose(50);
        salon.propose(60);
        CHECK.due("moveMain", 1, salon.moveMain(1));
        CHECK.due("mainProposal", 1, salon.mainProposal());
        CHECK.refused("a second one", UnsupportedOperationException.class, () -> salon.moveMain(0));
        CHECK.refused("an unknown second one", NoSuchElementException.class, () -> salon.moveMain(2));
        CHECK.due("mainProposal", 1, salon.mainProposal());
    }

    private static void amendmentRange() {
        TeaspoonSalon salon = new TeaspoonSalon();
        for (int change : new int[] {-21, 21, Integer.MIN_VALUE, Integer.MAX_VALUE}) {
            CHECK.refused("on nothing", IllegalArgumentException.class, () -> salon.moveAmendment(change));
        }
        CHECK.refused("on nothing", UnsupportedOperationException.class, () -> salon.moveAmendment(20));
        salon.propose(50);
        salon.moveMain(0);
        CHECK.refused("too much", IllegalArgumentException.class, () -> salon.moveAmendment(21));
        CHECK.refused("amendment", NoSuchElementException.class, salon::amendment);
        for (int change : new int[] {-20, 0, 20}) {
            CHECK.due("moveAmendment", 2, salon.moveAmendment(change));
            CHECK.due("amendment", change, salon.amendment());
            salon.undo();
        }
    }

    private static void ranks() {
        TeaspoonSalon salon = new TeaspoonSalon();
        salon.propose(50);
        salon.moveMain(0);
        CHECK.due("on m", "apcj", movable(salon));
        salon.moveAmendment(-5);
        CHECK.due("on a", "pcj", movable(salon));
        salon.movePostponement();
        CHECK.due("on p", "cj", movable(salon));
        salon.moveClosure();
        CHECK.due("on c", "j", movable(salon));
        CHECK.due("all five", 5, salon.moveAdjournment());
        CHECK.due("on j", "", movable(salon));
        CHECK.due("renderTable", "m0a-5pcj", Setting.table(salon));
    }

    private static void onlyAdjournment() {
        TeaspoonSalon salon = new TeaspoonSalon();
        salon.propose(50);
        CHECK.due("moveAdjournment", 1, salon.moveAdjournment());
        CHECK.due("on j alone", "", movable(salon));
        CHECK.due("renderTable", "j", Setting.table(salon));
        CHECK.refused("mainProposal", NoSuchElementException.class, salon::mainProposal);
        CHECK.refused("amendment", NoSuchElementException.class, salon::amendment);
    }

    private static void closedDebate() {
        TeaspoonSalon salon = new TeaspoonSalon();
        salon.propose(50);
        salon.moveMain(0);
        salon.moveClosure();
        CHECK.due("no spoons close", true, salon.vote());
        CHECK.due("isClosed", true, salon.isClosed());
        CHECK.due("on a closed m", "pcj", movable(salon));
        CHECK.due("renderTable", "m0!", Setting.table(salon));
        salon.moveClosure();
        CHECK.due("close again", true, salon.vote());
        CHECK.due("isClosed", true, salon.isClosed());
        salon.vote();
        CHECK.due("isClosed with an empty table", false, salon.isClosed());
        salon.propose(50);
        salon.moveMain(1);
        CHECK.due("on a new m", "apcj", movable(salon));
    }

    private static void reading() {
        TeaspoonSalon salon = new TeaspoonSalon();
        salon.propose(50);
        salon.propose(60);
        salon.moveMain(1);
        salon.moveAmendment(7);
        salon.moveAdjournment();
        CHECK.due("motionCount", 3, salon.motionCount());
        CHECK.due("kinds", "maj", "" + salon.motionKind(0) + salon.motionKind(1) + salon.motionKind(2));
        for (int place : new int[] {-1, 3, 5, Integer.MIN_VALUE, Integer.MAX_VALUE}) {
            CHECK.refused("motionKind", NoSuchElementException.class, () -> salon.motionKind(place));
        }
        CHECK.due("renderTable", "m1a7j", Setting.table(salon));
        salon.vote();
        salon.vote();
        CHECK.refused("amendment that is gone", NoSuchElementException.class, salon::amendment);
        salon.vote();
        CHECK.refused("main motion that is gone", NoSuchElementException.class, salon::mainProposal);
    }

    private static void unknownKinds() {
        TeaspoonSalon salon = new TeaspoonSalon();
        for (char kind : new char[] {0, ' ', 'M', 'b', 'x', 256 + 'm', 0xffff}) {
            CHECK.refused("canMove", IllegalArgumentException.class, () -> salon.canMove(kind));
        }
    }
}
