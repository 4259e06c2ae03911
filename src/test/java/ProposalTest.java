import java.util.NoSuchElementException;

/** Promises 3, 19 to 21, 53 and 54: the list of proposals and the output text. */
public final class ProposalTest {
    private static final Check CHECK = new Check();
    private static final int[] OUTSIDE = {-1, 6, 7, Integer.MIN_VALUE, Integer.MAX_VALUE};

    public static void main(String[] args) {
        propose();
        idsGoOn();
        unknownProposals();
        outputText();
        CHECK.end();
    }

    private static void propose() {
        TeaspoonSalon salon = new TeaspoonSalon();
        for (int position : new int[] {-1, 100, Integer.MIN_VALUE, Integer.MAX_VALUE}) {
            CHECK.refused("propose", IllegalArgumentException.class, () -> salon.propose(position));
        }
        CHECK.due("propose 0", 0, salon.propose(0));
        CHECK.due("propose 99", 1, salon.propose(99));
        for (int id = 2; id < 6; id++) {
            CHECK.due("propose", id, salon.propose(10 * id));
        }
        CHECK.refused("seventh proposal", IllegalStateException.class, () -> salon.propose(5));
        CHECK.refused("wrong seventh proposal", IllegalArgumentException.class, () -> salon.propose(100));
        CHECK.due("proposalCount", 6, salon.proposalCount());
        CHECK.due("list", "0@0,1@99,2@20,3@30,4@40,5@50", Setting.list(salon));
    }

    private static void idsGoOn() {
        TeaspoonSalon salon = Setting.withSpoons(1, 50);
        salon.propose(10);
        salon.propose(20);
        salon.propose(50);
        salon.moveMain(1);
        CHECK.due("rejected", false, salon.vote());
        CHECK.due("list without it", "0@10,2@50", Setting.list(salon));
        CHECK.due("proposalAt", 2, salon.proposalAt(1));
        CHECK.refused("proposalAt", NoSuchElementException.class, () -> salon.proposalAt(2));
        CHECK.refused("position", NoSuchElementException.class, () -> salon.position(1));
        CHECK.due("position", 50, salon.position(2));
        CHECK.due("next id", 3, salon.propose(7));
        salon.moveMain(2);
        CHECK.due("adopted", true, salon.vote());
        CHECK.due("list without it", "0@10,3@7", Setting.list(salon));
        CHECK.due("proposalCount", 2, salon.proposalCount());
    }

    private static void unknownProposals() {
        TeaspoonSalon salon = new TeaspoonSalon();
        for (int id = 0; id < 6; id++) {
            salon.propose(id);
        }
        for (int outside : OUTSIDE) {
            CHECK.refused("proposalAt", NoSuchElementException.class, () -> salon.proposalAt(outside));
            CHECK.refused("position", NoSuchElementException.class, () -> salon.position(outside));
            CHECK.refused("bestOrder", NoSuchElementException.class, () -> salon.bestOrder(outside));
            CHECK.refused("isInTop", NoSuchElementException.class, () -> salon.isInTop(outside));
            CHECK.refused("isInTopBySets", NoSuchElementException.class, () -> salon.isInTopBySets(outside));
            CHECK.refused("support of", NoSuchElementException.class, () -> salon.support(outside, 0));
            CHECK.refused("support against", NoSuchElementException.class, () -> salon.support(0, outside));
            CHECK.refused("moveMain", NoSuchElementException.class, () -> salon.moveMain(outside));
        }
    }

    private static void outputText() {
        TeaspoonSalon salon = new TeaspoonSalon();
        salon.propose(40);
        CHECK.due("renderList", 4, salon.renderList());
        salon.propose(5);
        CHECK.due("the text stays", '0', salon.outputAt(3));
        for (int index : new int[] {-1, 4, 60, Integer.MIN_VALUE, Integer.MAX_VALUE}) {
            CHECK.refused("outputAt", IndexOutOfBoundsException.class, () -> salon.outputAt(index));
        }
        salon.moveMain(1);
        CHECK.due("renderTable replaces it", 2, salon.renderTable());
        CHECK.refused("outputAt", IndexOutOfBoundsException.class, () -> salon.outputAt(2));
        salon.undo();
        CHECK.due("undo leaves the text", '1', salon.outputAt(1));
        CHECK.due("empty table", 0, salon.renderTable());
        CHECK.refused("outputAt", IndexOutOfBoundsException.class, () -> salon.outputAt(0));
    }
}
