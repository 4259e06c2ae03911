import java.io.IOException;
import java.util.NoSuchElementException;

/** Promises 31 to 50, what is ranked, measured, counted and kept: a test for each sentence. */
public final class MeasureQueriesTest {
    private static final String NO_PLACE = "Throws `NoSuchElementException` if there is no such place";
    private static final String NOT_ON_LIST = "Throws `NoSuchElementException` if no proposal with this id is on the list";
    private static final String NO_CELL = "Throws `IndexOutOfBoundsException` if there is no such cell";
    private static final String CELLS = "Returns the number of cells.";
    private static final String LUMPS = "Returns the number of lumps.";
    private static final String SUM = "Returns the sum.";
    private static final String ID = "Returns the id of the proposal.";

    public static void main(String[] args) throws IOException {
        Sentences promises = Sentences.ofPromises(31, 50);
        support(promises);
        orders(promises);
        tops(promises);
        cells(promises);
        puddles(promises);
        noSuchCells(promises);
        spoonBySugar(promises);
        minutes(promises);
        sittings(promises);
        sugar(promises);
        shares(promises);
        promises.end();
    }

    private static void support(Sentences promises) {
        promises.test("Promise 31", "- `other`: the id of the other proposal, which can be the same", check -> {
            TeaspoonSalon salon = Setting.propose(Setting.eightSpoons(), 30, 70);
            check.due("the same", "0 0", salon.support(0, 0) + " " + salon.support(1, 1));
        });
        promises.test("Promise 31", "Returns the support.", check -> {
            TeaspoonSalon salon = Setting.propose(Setting.eightSpoons(), 30, 70);
            check.due("for 30", 1 + 3 + 4, salon.support(0, 1));
            check.due("for 70", 9 + 6 + 7 + 8, salon.support(1, 0));
        });
        promises.test("Promise 31", "Throws `NoSuchElementException` if no proposal with this id is on the list, for either "
                + "argument", check -> {
            ListIds.expectFor(check, (salon, id) -> salon.support(id, salon.proposalAt(0)));
            ListIds.expectFor(check, (salon, id) -> salon.support(salon.proposalAt(0), id));
            ListIds.expectFor(check, (salon, id) -> salon.support(id, id));
        });
    }

    private static void orders(Sentences promises) {
        promises.test("Promise 32", "Returns the sum, 0 without proposals.", check -> {
            check.due("without both", 0, new TeaspoonSalon().fewestDisagreements());
            check.due("without proposals", 0, Setting.eightSpoons().fewestDisagreements());
            check.due("with one", 0, Setting.propose(Setting.eightSpoons(), 50).fewestDisagreements());
            check.due("with two", 8, Setting.propose(Setting.eightSpoons(), 30, 70).fewestDisagreements());
            check.due("with six", 15 * 8, sixProposals().fewestDisagreements());
        });
        promises.test("Promise 33", SUM, check -> {
            check.due("without both", 0, new TeaspoonSalon().fewestDisagreementsByOrders());
            check.due("without proposals", 0, Setting.eightSpoons().fewestDisagreementsByOrders());
            check.due("with one", 0, Setting.propose(Setting.eightSpoons(), 50).fewestDisagreementsByOrders());
            check.due("with two", 8, Setting.propose(Setting.eightSpoons(), 30, 70).fewestDisagreementsByOrders());
            check.due("with six", 15 * 8, sixProposals().fewestDisagreementsByOrders());
        });
        promises.test("Promise 34", "- `place`: the place, counted from 0", check -> {
            TeaspoonSalon salon = Setting.propose(Setting.eightSpoons(), 30, 70);
            check.due("first", 1, salon.bestOrder(0));
            check.due("last", 0, salon.bestOrder(1));
        });
        promises.test("Promise 34", ID, check -> {
            TeaspoonSalon salon = sixProposals();
            for (int place = 0; place < 6; place++) {
                check.due("bestOrder " + place, 5 - place, salon.bestOrder(place));
            }
            salon.moveMain(5);
            salon.vote();
            check.due("without the first", "4 0", salon.bestOrder(0) + " " + salon.bestOrder(4));
        });
        promises.test("Promise 34", NO_PLACE, check -> {
            TeaspoonSalon salon = new TeaspoonSalon();
            for (int count = 0; count <= 6; count++) {
                check.takesBelow(count, "bestOrder", NoSuchElementException.class, salon::bestOrder);
                if (count < 6) {
                    salon.propose(50);
                }
            }
        });
    }

    /** Of each two, the lower one is preferred by the weights at 0 to 3, 8 in all, and the higher one by 30. */
    private static TeaspoonSalon sixProposals() {
        TeaspoonSalon salon = Setting.withSpoons(1, 0, 3, 1, 4, 2, 9, 99, 6, 98, 7, 97, 8, 96);
        return Setting.propose(salon, 40, 43, 46, 50, 53, 56);
    }

    private static void tops(Sentences promises) {
        promises.test("Promise 35", "Returns true if it is in the top.", check ->
                expectTops(check, (salon, id) -> salon.isInTop(id)));
        promises.test("Promise 35", NOT_ON_LIST, check -> ListIds.expectFor(check, (salon, id) -> salon.isInTop(id)));
        promises.test("Promise 36", "Returns true if it is in the top.", check ->
                expectTops(check, (salon, id) -> salon.isInTopBySets(id)));
        promises.test("Promise 36", NOT_ON_LIST, check -> ListIds.expectFor(check, (salon, id) -> salon.isInTopBySets(id)));
    }

    private static void expectTops(Check check, ListIds.Query query) {
        check.due("a list of one", true, query.answer(Setting.withList(5), 0));
        check.due("one of six", true, query.answer(sixProposals(), 5));
        for (int id = 0; id < 6; id++) {
            check.due("of equals", true, query.answer(Setting.withList(5, 5, 5, 5, 5, 5), id));
            check.due("of six", id == 5, query.answer(sixProposals(), id));
        }
        TeaspoonSalon salon = sixProposals();
        salon.moveMain(5);
        salon.vote();
        check.due("without the first", true, query.answer(salon, 4));
    }

    private static void cells(Sentences promises) {
        promises.test("Promise 37", "Returns true if it is wet.", check -> {
            TeaspoonSalon salon = new TeaspoonSalon();
            check.due("dry", false, salon.isWet(7, 7));
            salon.spill(7, 7, 1);
            check.due("wet", true, salon.isWet(7, 7));
            check.due("one of 64", "false false false", salon.isWet(0, 0) + " " + salon.isWet(6, 7) + " " + salon.isWet(7, 6));
            salon.mop(7, 7);
            check.due("dry again", false, salon.isWet(7, 7));
        });
        promises.test("Promise 38", CELLS, check -> {
            TeaspoonSalon salon = new TeaspoonSalon();
            check.due("none", 0, salon.wetCells());
            salon.spill(0, 0, 1);
            check.due("one", 1, salon.wetCells());
            salon.spill(0, 0, 30);
            salon.spill(0, 0, 30);
            salon.spill(0, 0, 2);
            check.due("all but one", 63, salon.wetCells());
            salon.spill(0, 0, 1);
            check.due("all", 64, salon.wetCells());
            salon.mop(0, 0);
            check.due("none again", 0, salon.wetCells());
        });
    }

    private static void puddles(Sentences promises) {
        promises.test("Promise 39", "Returns the number of cells, 0 for a dry cell.", check ->
                expectSizes(check, TeaspoonSalon::puddle));
        promises.test("Promise 40", CELLS, check -> expectSizes(check, TeaspoonSalon::puddleByGroups));
        promises.test("Promise 41", "Returns the number of cells, 0 without wet cells.", check -> {
            TeaspoonSalon salon = new TeaspoonSalon();
            check.due("none", 0, salon.largestPuddle());
            salon.spill(7, 7, 1);
            check.due("one", 1, salon.largestPuddle());
            salon.spill(0, 0, 6);
            check.due("the larger one", 6, salon.largestPuddle());
            salon.spill(7, 0, 7);
            check.due("a later one", 7, salon.largestPuddle());
            salon.mop(7, 0);
            check.due("mopped", 6, salon.largestPuddle());
            for (int spill = 0; spill < 3; spill++) {
                salon.spill(0, 0, 30);
            }
            check.due("all", 64, salon.largestPuddle());
        });
        promises.test("Promise 42", "Returns the number of puddles.", check -> {
            TeaspoonSalon salon = new TeaspoonSalon();
            check.due("none", 0, salon.puddleCount());
            for (int cell = 0; cell < 64; cell += 2) {
                salon.spill(cell / 8, cell % 8 + cell / 8 % 2, 1);
            }
            check.due("the most", 32, salon.puddleCount());
            salon.mop(7, 7);
            check.due("one less", 31, salon.puddleCount());
            salon.spill(0, 0, 30);
            salon.spill(0, 0, 30);
            check.due("all", 1, salon.puddleCount());
        });
    }

    private interface Size {
        int of(TeaspoonSalon salon, int row, int column);
    }

    private static void expectSizes(Check check, Size size) {
        TeaspoonSalon salon = new TeaspoonSalon();
        check.due("dry", 0, size.of(salon, 0, 0));
        salon.spill(0, 0, 1);
        check.due("one", 1, size.of(salon, 0, 0));
        check.due("dry beside it", "0 0", size.of(salon, 0, 1) + " " + size.of(salon, 1, 0));
        salon.spill(7, 7, 10);
        check.due("another", "10 1", size.of(salon, 7, 4) + " " + size.of(salon, 0, 0));
        salon.spill(0, 0, 30);
        salon.spill(0, 0, 30);
        check.due("all", "64 64", size.of(salon, 0, 0) + " " + size.of(salon, 7, 7));
        salon.mop(3, 3);
        check.due("none", "0 0", size.of(salon, 0, 0) + " " + size.of(salon, 7, 7));
        salon.spill(0, 0, 2);
        check.due("anew", "2 0", size.of(salon, 0, 1) + " " + size.of(salon, 7, 7));
        salon.undo();
        check.due("undone", 0, size.of(salon, 0, 1));
        TeaspoonSalon teeth = new TeaspoonSalon();
        for (int row = 0; row < 8; row++) {
            for (int column = 0; column < 8; column += row == 7 ? 1 : 2) {
                teeth.spill(row, column, 1);
            }
        }
        check.due("joined in the last row", "36 36", size.of(teeth, 0, 0) + " " + size.of(teeth, 0, 6));
        check.due("between the teeth", 0, size.of(teeth, 6, 1));
    }

    private static void noSuchCells(Sentences promises) {
        promises.test("Promise 37", NO_CELL, check -> expectCells(check, (salon, row, column) ->
                salon.isWet(row, column) ? 1 : 0));
        promises.test("Promise 39", NO_CELL, check -> expectCells(check, TeaspoonSalon::puddle));
        promises.test("Promise 40", NO_CELL, check -> expectCells(check, TeaspoonSalon::puddleByGroups));
    }

    private static void expectCells(Check check, Size query) {
        TeaspoonSalon salon = new TeaspoonSalon();
        for (int spill = 0; spill < 4; spill++) {
            check.takesBelow(8, "row", IndexOutOfBoundsException.class, row -> query.of(salon, row, 7));
            check.takesBelow(8, "column", IndexOutOfBoundsException.class, column -> query.of(salon, 7, column));
            check.takesBelow(0, "neither", IndexOutOfBoundsException.class, at -> query.of(salon, at < 0 ? at : 8, at));
            salon.spill(0, 0, 30);
        }
    }

    private static void spoonBySugar(Sentences promises) {
        promises.test("Promise 43", "- `rank`: the rank, counted from 0", check -> {
            TeaspoonSalon salon = Setting.withSpoons(1, 50, 2, 50);
            check.due("first", 1, salon.spoonBySugar(0));
            check.due("last", 0, salon.spoonBySugar(1));
        });
        promises.test("Promise 43", "Returns the spoon at a rank when spoons are sorted by sugar in descending order, then by "
                + "weight in descending order, then by index in ascending order.", check -> {
            check.due("by index", "01234567", ranking(Setting.withSpoons(5, 9, 5, 8, 5, 7, 5, 6, 5, 5, 5, 4, 5, 3, 5, 2)));
            TeaspoonSalon salon = Setting.withSpoons(1, 50, 9, 50, 5, 50, 9, 50, 1, 50, 5, 50);
            check.due("by weight", "132504", ranking(salon));
            salon.giveSugar(4, 1);
            check.due("by sugar", "413250", ranking(salon));
            salon.giveSugar(0, 1);
            check.due("equal sugar and weight", "041325", ranking(salon));
            salon.giveSugar(5, 1);
            check.due("equal sugar", "504132", ranking(salon));
        });
        promises.test("Promise 43", "Returns the index of the spoon.", check ->
                check.due("one spoon", 0, Setting.withSpoons(9, 9).spoonBySugar(0)));
        promises.test("Promise 43", "Throws `NoSuchElementException` if there is no such rank", check -> {
            TeaspoonSalon salon = new TeaspoonSalon();
            for (int count = 0; count <= 8; count++) {
                check.takesBelow(count, "spoonBySugar", NoSuchElementException.class, salon::spoonBySugar);
                if (count < 8) {
                    salon.addSpoon(1, 1);
                }
            }
        });
    }

    private static String ranking(TeaspoonSalon salon) {
        StringBuilder ranking = new StringBuilder();
        for (int rank = 0; rank < salon.spoonCount(); rank++) {
            ranking.append(salon.spoonBySugar(rank));
        }
        return ranking.toString();
    }

    private static void minutes(Sentences promises) {
        promises.test("Promise 44", "Returns the number of proposals.", check -> {
            TeaspoonSalon salon = Setting.withSpoons(1, 50);
            for (int count = 0; count < 43; count++) {
                check.due("minutesCount", count, salon.minutesCount());
                adopt(salon, 1);
            }
            salon.propose(99);
            salon.moveMain(43);
            salon.vote();
            check.due("one that is not adopted", 43, salon.minutesCount());
        });
        promises.test("Promise 45", "- `place`: the place, counted from 0", check -> {
            TeaspoonSalon salon = adopt(Setting.withSpoons(1, 50), 2);
            check.due("first", 0, salon.minute(0));
            check.due("second", 1, salon.minute(1));
        });
        promises.test("Promise 45", ID, check -> {
            TeaspoonSalon salon = Setting.withSpoons(1, 50);
            Setting.propose(salon, 50, 99, 50, 50);
            salon.moveMain(3);
            salon.vote();
            salon.moveMain(1);
            salon.vote();
            salon.moveMain(0);
            salon.vote();
            check.due("in the order of adoption", "3 0", salon.minute(0) + " " + salon.minute(1));
        });
        promises.test("Promise 45", "Throws `NoSuchElementException` if there is no such place, or it is not among the "
                + "latest 20 proposals", check -> {
            for (int count : new int[] {0, 1, 19, 20, 21, 22, 39, 40, 41, 61}) {
                TeaspoonSalon salon = adopt(Setting.withSpoons(1, 50), count);
                for (int place = -1; place <= count; place++) {
                    int at = place;
                    boolean isKept = place >= 0 && place < count && place >= count - 20;
                    check.due("minute " + place + " of " + count, isKept ? (Object) place : "throws NoSuchElementException",
                            Check.answerOf(() -> salon.minute(at)));
                }
                check.refused("the least", NoSuchElementException.class, () -> salon.minute(Integer.MIN_VALUE));
                check.refused("the most", NoSuchElementException.class, () -> salon.minute(Integer.MAX_VALUE));
            }
            TeaspoonSalon undone = adopt(Setting.withSpoons(1, 50), 21);
            undone.undo();
            check.due("the 21st is taken back", 0, undone.minute(0));
            check.refused("the 21st is taken back", NoSuchElementException.class, () -> undone.minute(20));
        });
    }

    /** Adopts new proposals, with ids that are their places in the minutes if none was left out. */
    private static TeaspoonSalon adopt(TeaspoonSalon salon, int count) {
        for (int adopted = 0; adopted < count; adopted++) {
            salon.moveMain(salon.propose(50));
            salon.vote();
        }
        return salon;
    }

    private static void sittings(Sentences promises) {
        promises.test("Promise 46", "Returns the number of sittings.", check -> {
            TeaspoonSalon salon = Setting.withSpoons(1, 50);
            check.due("at first", 0, salon.sittings());
            salon.spill(0, 0, 20);
            check.due("by a spill", 1, salon.sittings());
            salon.moveAdjournment();
            check.due("moved", 1, salon.sittings());
            salon.speak(0);
            salon.speak(0);
            salon.vote();
            check.due("not adopted", 1, salon.sittings());
            salon.moveAdjournment();
            salon.speak(0);
            salon.vote();
            check.due("by a vote", 2, salon.sittings());
        });
    }

    private static void sugar(Sentences promises) {
        promises.test("Promise 47", LUMPS, check -> expectSugar(check, TeaspoonSalon::sugarTotal));
        promises.test("Promise 48", LUMPS, check -> expectSugar(check, TeaspoonSalon::sugarByAccounts));
    }

    private interface Total {
        int of(TeaspoonSalon salon);
    }

    private static void expectSugar(Check check, Total total) {
        TeaspoonSalon salon = new TeaspoonSalon();
        check.due("without spoons", 0, total.of(salon));
        for (int count = 1; count <= 8; count++) {
            salon.addSpoon(1, 10 * count);
            check.due("the first lumps", 5 * count, total.of(salon));
        }
        salon.giveSugar(7, 9);
        check.due("given", 49, total.of(salon));
        Setting.move(Setting.propose(salon, 40), "m");
        salon.speak(0);
        salon.speak(7);
        check.due("spent", 47, total.of(salon));
        check.due("5 of 8", true, salon.vote());
        check.due("gained", 57, total.of(salon));
        salon.undo();
        check.due("not gained", 47, total.of(salon));
        salon.save();
        salon.vote();
        salon.restore();
        check.due("not gained", 47, total.of(salon));
        check.due("gained by a script", 2, Setting.run(salon, "vote;sugar 0 1"));
        check.due("gained by a script", 58, total.of(salon));
    }

    private static void shares(Sentences promises) {
        promises.test("Promise 49", "Returns the mean stance.", check -> {
            check.due("one at 0", 0.0, Setting.withSpoons(9, 0).meanStance());
            check.due("one at 99", 99.0, Setting.withSpoons(9, 99).meanStance());
            check.due("weights do not count", 49.5, Setting.withSpoons(9, 99, 1, 0).meanStance());
            check.due("not rounded", 100.0 / 3.0, Setting.withSpoons(1, 0, 1, 1, 1, 99).meanStance());
            check.due("eight", 429.0 / 8.0, Setting.eightSpoons().meanStance());
        });
        promises.test("Promise 49", "Throws `ArithmeticException` if there are no spoons", check -> {
            TeaspoonSalon salon = new TeaspoonSalon();
            check.refused("at first", ArithmeticException.class, salon::meanStance);
            salon.addSpoon(1, 1);
            check.due("with one", 1.0, salon.meanStance());
            salon.undo();
            check.refused("it is taken back", ArithmeticException.class, salon::meanStance);
        });
        promises.test("Promise 50", "Returns the share.", check -> {
            TeaspoonSalon salon = Setting.withList(50);
            Setting.move(salon, "mj").vote();
            check.due("none of one", 0.0f, salon.adoptedShare());
            Setting.move(salon, "c").vote();
            check.due("one of two", 0.5f, salon.adoptedShare());
            salon.vote();
            check.due("one of three", 1.0f / 3.0f, salon.adoptedShare());
            TeaspoonSalon unanimous = Setting.move(Setting.propose(Setting.withSpoons(1, 50), 50), "m");
            unanimous.vote();
            check.due("one of one", 1.0f, unanimous.adoptedShare());
            unanimous.spill(0, 0, 30);
            check.due("a sitting ended without a vote", 1.0f, unanimous.adoptedShare());
        });
        promises.test("Promise 50", "Throws `ArithmeticException` if there was no vote", check -> {
            TeaspoonSalon salon = Setting.move(Setting.withList(50), "m");
            check.refused("a motion without a vote", ArithmeticException.class, salon::adoptedShare);
            salon.vote();
            check.due("a vote", 0.0f, salon.adoptedShare());
            salon.undo();
            check.refused("it is taken back", ArithmeticException.class, salon::adoptedShare);
        });
    }
}
