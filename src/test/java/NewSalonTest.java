import java.util.NoSuchElementException;

/** Promise 1: a new object. */
public final class NewSalonTest {
    public static void main(String[] args) {
        Check check = new Check();
        TeaspoonSalon salon = new TeaspoonSalon();
        check.due("spoonCount", 0, salon.spoonCount());
        check.due("proposalCount", 0, salon.proposalCount());
        check.due("motionCount", 0, salon.motionCount());
        check.due("isClosed", false, salon.isClosed());
        check.due("wetCells", 0, salon.wetCells());
        check.due("largestPuddle", 0, salon.largestPuddle());
        check.due("puddleCount", 0, salon.puddleCount());
        check.due("minutesCount", 0, salon.minutesCount());
        check.due("sittings", 0, salon.sittings());
        check.due("sugarTotal", 0, salon.sugarTotal());
        check.due("sugarByAccounts", 0, salon.sugarByAccounts());
        check.due("fewestDisagreements", 0, salon.fewestDisagreements());
        check.due("fewestDisagreementsByOrders", 0, salon.fewestDisagreementsByOrders());
        check.due("isConsistent", true, salon.isConsistent());
        check.due("renderTable", 0, salon.renderTable());
        check.due("renderList", 0, salon.renderList());
        check.refused("meanStance", ArithmeticException.class, salon::meanStance);
        check.refused("adoptedShare", ArithmeticException.class, salon::adoptedShare);
        check.refused("errorPosition", NoSuchElementException.class, salon::errorPosition);
        check.refused("failedCommand", NoSuchElementException.class, salon::failedCommand);
        check.refused("undo", IllegalStateException.class, salon::undo);
        check.refused("restore", IllegalStateException.class, salon::restore);
        check.refused("outputAt", IndexOutOfBoundsException.class, () -> salon.outputAt(0));
        check.due("save", 0, salon.save());
        check.due("propose", 0, salon.propose(0));
        check.due("addSpoon", 0, salon.addSpoon(1, 0));
        check.end();
    }
}
