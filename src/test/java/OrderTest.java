/** Promises 31 to 36: support, the best order and the top. */
public final class OrderTest {
    private static final Check CHECK = new Check();

    public static void main(String[] args) {
        support();
        listOfOne();
        bestOrder();
        lowerIdsFirst();
        neitherBeats();
        withoutSpoons();
        firstQuestions();
        CHECK.end();
    }

    private static String order(TeaspoonSalon salon) {
        StringBuilder order = new StringBuilder();
        for (int place = 0; place < salon.proposalCount(); place++) {
            order.append(salon.bestOrder(place));
        }
        return order.toString();
    }

    private static String top(TeaspoonSalon salon) {
        StringBuilder top = new StringBuilder();
        for (int place = 0; place < salon.proposalCount(); place++) {
            int id = salon.proposalAt(place);
            CHECK.due("isInTopBySets", salon.isInTop(id), salon.isInTopBySets(id));
            if (salon.isInTop(id)) {
                top.append(id);
            }
        }
        return top.toString();
    }

    private static void expect(TeaspoonSalon salon, int fewest, String order, String top) {
        CHECK.due("fewestDisagreements", fewest, salon.fewestDisagreements());
        CHECK.due("fewestDisagreementsByOrders", fewest, salon.fewestDisagreementsByOrders());
        CHECK.due("bestOrder", order, order(salon));
        CHECK.due("top", top, top(salon));
        CHECK.due("isConsistent", true, salon.isConsistent());
    }

    private static void support() {
        TeaspoonSalon salon = Setting.withSpoons(1, 0, 2, 50, 4, 51, 8, 99);
        salon.propose(40);
        salon.propose(60);
        salon.propose(60);
        CHECK.due("neither at 50", 1, salon.support(0, 1));
        CHECK.due("neither at 50", 12, salon.support(1, 0));
        CHECK.due("the same proposal", 0, salon.support(1, 1));
        CHECK.due("the same position", 0, salon.support(1, 2));
    }

    private static void listOfOne() {
        TeaspoonSalon salon = Setting.withSpoons(5, 50);
        salon.propose(1);
        expect(salon, 0, "0", "0");
    }

    private static void bestOrder() {
        TeaspoonSalon salon = Setting.withSpoons(3, 20, 4, 60, 2, 90);
        salon.propose(40);
        salon.propose(75);
        salon.propose(10);
        expect(salon, 9, "102", "1");
    }

    /** Postponing changes the list, but not which of two equal orders is the best. */
    private static void lowerIdsFirst() {
        TeaspoonSalon salon = Setting.withSpoons(1, 90, 1, 0);
        salon.propose(40);
        salon.propose(45);
        salon.propose(50);
        salon.moveMain(0);
        salon.movePostponement();
        salon.vote();
        CHECK.due("list", "1@45,2@50,0@40", Setting.list(salon));
        expect(salon, 3, "012", "120");
    }

    /** The spoon in the middle has no preference between 99 and 1. */
    private static void neitherBeats() {
        TeaspoonSalon salon = Setting.withSpoons(2, 0, 2, 99, 3, 50);
        salon.propose(50);
        salon.propose(0);
        salon.propose(99);
        salon.propose(1);
        expect(salon, 12, "0231", "0");
        salon.moveMain(0);
        salon.vote();
        CHECK.due("list", "1@0,2@99,3@1", Setting.list(salon));
        expect(salon, 6, "231", "23");
    }

    /** Each query answers rightly when nothing was asked before. */
    private static void firstQuestions() {
        CHECK.due("fewestDisagreements", 3, twoSides().fewestDisagreements());
        CHECK.due("fewestDisagreementsByOrders", 3, twoSides().fewestDisagreementsByOrders());
        CHECK.due("bestOrder", 1, twoSides().bestOrder(0));
        CHECK.due("isInTop", false, twoSides().isInTop(0));
        CHECK.due("isInTop", true, twoSides().isInTop(1));
        CHECK.due("isInTopBySets", false, twoSides().isInTopBySets(0));
        CHECK.due("isInTopBySets", true, twoSides().isInTopBySets(1));
    }

    private static TeaspoonSalon twoSides() {
        TeaspoonSalon salon = Setting.withSpoons(3, 10, 4, 90);
        salon.propose(10);
        salon.propose(90);
        return salon;
    }

    private static void withoutSpoons() {
        TeaspoonSalon salon = new TeaspoonSalon();
        for (int id = 0; id < 6; id++) {
            salon.propose(90 - 10 * id);
        }
        expect(salon, 0, "012345", "012345");
    }
}
