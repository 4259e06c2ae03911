import java.io.IOException;
import java.util.NoSuchElementException;

/** Promises 14 to 30, what can be asked about spoons, proposals, motions and votes: a test for each sentence. */
public final class DebateQueriesTest {
    private static final String NO_SPOON = "Throws `IndexOutOfBoundsException` if there is no such spoon";
    private static final String NO_PLACE = "Throws `NoSuchElementException` if there is no such place";
    private static final String NOT_ON_LIST = "Throws `NoSuchElementException` if no proposal with this id is on the list";
    private static final String EMPTY_TABLE = "Throws `NoSuchElementException` if the table is empty";
    private static final String LUMPS = "Returns the number of lumps.";
    private static final String ID = "Returns the id of the proposal.";

    public static void main(String[] args) throws IOException {
        Sentences promises = Sentences.ofPromises(14, 30);
        spoons(promises);
        noSuchSpoons(promises);
        proposals(promises);
        motions(promises);
        subjects(promises);
        canMove(promises);
        votes(promises);
        promises.end();
    }

    private static void spoons(Sentences promises) {
        promises.test("Promise 14", "Returns the number of spoons.", check -> {
            TeaspoonSalon salon = new TeaspoonSalon();
            for (int count = 0; count < 8; count++) {
                check.due("spoonCount", count, salon.spoonCount());
                salon.addSpoon(1, 1);
            }
            check.due("full", 8, salon.spoonCount());
        });
        promises.test("Promise 15", "Returns the weight.", check -> {
            TeaspoonSalon salon = Setting.eightSpoons();
            check.due("weights", "1 9 8", salon.weight(0) + " " + salon.weight(1) + " " + salon.weight(7));
        });
        promises.test("Promise 16", "Returns the stance.", check -> {
            TeaspoonSalon salon = Setting.eightSpoons();
            check.due("stances", "0 99 80", salon.stance(0) + " " + salon.stance(1) + " " + salon.stance(7));
        });
        promises.test("Promise 17", LUMPS, check -> {
            TeaspoonSalon salon = Setting.withSpoons(1, 50, 9, 50);
            for (int left = 4; left >= 0; left--) {
                salon.moveAdjournment();
                salon.speak(0);
                check.due("spending", left + " 5", salon.sugar(0) + " " + salon.sugar(1));
                salon.vote();
            }
            salon.giveSugar(0, 9);
            check.due("given", "9 5", salon.sugar(0) + " " + salon.sugar(1));
        });
        promises.test("Promise 18", "Returns the number of speeches, 0 to 2.", check -> {
            TeaspoonSalon salon = Setting.eightSpoons();
            salon.moveAdjournment();
            check.due("none", "0 0", salon.speeches(0) + " " + salon.speeches(7));
            salon.speak(7);
            check.due("one", "0 1", salon.speeches(0) + " " + salon.speeches(7));
            salon.speak(7);
            check.due("two", "0 2", salon.speeches(0) + " " + salon.speeches(7));
            check.refused("three", IllegalStateException.class, () -> salon.speak(7));
            check.due("still two", 2, salon.speeches(7));
            salon.vote();
            check.due("on nothing", 0, salon.speeches(7));
        });
    }

    private static void noSuchSpoons(Sentences promises) {
        for (int promise = 15; promise <= 18; promise++) {
            int asked = promise;
            promises.test("Promise " + promise, NO_SPOON, check -> {
                TeaspoonSalon salon = new TeaspoonSalon();
                for (int count = 0; count <= 8; count++) {
                    check.takesBelow(count, "a spoon", IndexOutOfBoundsException.class, spoon -> ofSpoon(salon, asked, spoon));
                    if (count < 8) {
                        salon.addSpoon(1, 1);
                    }
                }
            });
        }
    }

    private static int ofSpoon(TeaspoonSalon salon, int promise, int spoon) {
        switch (promise) {
            case 15:
                return salon.weight(spoon);
            case 16:
                return salon.stance(spoon);
            case 17:
                return salon.sugar(spoon);
            default:
                return salon.speeches(spoon);
        }
    }

    private static void proposals(Sentences promises) {
        promises.test("Promise 19", "Returns the number of proposals.", check -> {
            TeaspoonSalon salon = new TeaspoonSalon();
            for (int count = 0; count < 6; count++) {
                check.due("proposalCount", count, salon.proposalCount());
                salon.propose(count);
            }
            check.due("full", 6, salon.proposalCount());
            salon.moveMain(3);
            check.due("while it is debated", 6, salon.proposalCount());
            salon.vote();
            check.due("not adopted", 5, salon.proposalCount());
        });
        promises.test("Promise 20", "- `place`: the place, counted from 0", check -> {
            TeaspoonSalon salon = Setting.withList(9, 8);
            check.due("first", 0, salon.proposalAt(0));
            check.due("second", 1, salon.proposalAt(1));
        });
        promises.test("Promise 20", ID, check -> {
            TeaspoonSalon salon = Setting.withList(1, 2, 3, 4, 5, 6);
            salon.moveMain(0);
            salon.vote();
            salon.propose(7);
            for (int place = 0; place < 6; place++) {
                check.due("proposalAt " + place, place + 1, salon.proposalAt(place));
            }
        });
        promises.test("Promise 20", NO_PLACE, check -> {
            TeaspoonSalon salon = new TeaspoonSalon();
            for (int count = 0; count <= 6; count++) {
                check.takesBelow(count, "proposalAt", NoSuchElementException.class, salon::proposalAt);
                if (count < 6) {
                    salon.propose(50);
                }
            }
            salon.moveMain(0);
            salon.vote();
            check.takesBelow(5, "proposalAt", NoSuchElementException.class, salon::proposalAt);
        });
        promises.test("Promise 21", "Returns the position.", check -> {
            TeaspoonSalon salon = Setting.withList(99, 0, 50);
            check.due("positions", "99 0 50", salon.position(0) + " " + salon.position(1) + " " + salon.position(2));
        });
        promises.test("Promise 21", NOT_ON_LIST, check ->
                ListIds.expectFor(check, (salon, id) -> salon.position(id)));
    }

    private static void motions(Sentences promises) {
        promises.test("Promise 22", "Returns the number of motions.", check -> {
            TeaspoonSalon salon = Setting.withList(50);
            check.due("none", 0, salon.motionCount());
            for (int count = 1; count <= 5; count++) {
                Setting.move(salon, "mapcj".charAt(count - 1));
                check.due("motionCount", count, salon.motionCount());
            }
            salon.vote();
            check.due("after a vote", 4, salon.motionCount());
        });
        promises.test("Promise 23", "- `place`: the place, 0 for the lowest motion", check -> {
            TeaspoonSalon salon = Setting.move(Setting.withList(50), "mpj");
            check.due("lowest", 'm', salon.motionKind(0));
            check.due("top", 'j', salon.motionKind(2));
        });
        promises.test("Promise 23", "Returns 'm', 'a', 'p', 'c' or 'j'.", check -> {
            TeaspoonSalon salon = Setting.move(Setting.withList(50), "mapcj");
            for (int place = 0; place < 5; place++) {
                check.due("motionKind", "mapcj".charAt(place), salon.motionKind(place));
            }
            check.due("alone", 'j', Setting.move(new TeaspoonSalon(), "j").motionKind(0));
        });
        promises.test("Promise 23", NO_PLACE, check -> {
            TeaspoonSalon salon = Setting.withList(50);
            for (int count = 0; count <= 5; count++) {
                check.takesBelow(count, "motionKind", NoSuchElementException.class, salon::motionKind);
                if (count < 5) {
                    Setting.move(salon, "mapcj".charAt(count));
                }
            }
            salon.vote();
            check.takesBelow(4, "motionKind", NoSuchElementException.class, salon::motionKind);
        });
    }

    private static void subjects(Sentences promises) {
        promises.test("Promise 24", "Returns the change.", check -> {
            for (int change : new int[] {-20, -1, 0, 1, 20}) {
                TeaspoonSalon salon = Setting.move(Setting.withList(50), "m");
                salon.moveAmendment(change);
                check.due("on top", change, salon.amendment());
                Setting.move(salon, "j");
                check.due("below another", change, salon.amendment());
            }
        });
        promises.test("Promise 24", "Throws `NoSuchElementException` if there is no amendment on the table", check -> {
            for (String table : new String[] {"", "m", "mp", "mpcj", "j"}) {
                TeaspoonSalon salon = Setting.move(Setting.withList(50), table);
                check.refused("on " + table, NoSuchElementException.class, salon::amendment);
            }
            TeaspoonSalon salon = Setting.move(Setting.withList(50), "ma");
            salon.vote();
            check.refused("voted on", NoSuchElementException.class, salon::amendment);
            salon.moveAmendment(2);
            salon.spill(0, 0, 20);
            check.refused("adjourned", NoSuchElementException.class, salon::amendment);
        });
        promises.test("Promise 25", ID, check -> {
            TeaspoonSalon salon = Setting.withList(50, 60, 70);
            salon.moveMain(2);
            check.due("alone", 2, salon.mainProposal());
            Setting.move(salon, "apcj");
            check.due("below others", 2, salon.mainProposal());
        });
        promises.test("Promise 25", "Throws `NoSuchElementException` if there is no main motion on the table", check -> {
            TeaspoonSalon salon = Setting.withList(50, 60);
            check.refused("at first", NoSuchElementException.class, salon::mainProposal);
            salon.moveAdjournment();
            check.refused("on j", NoSuchElementException.class, salon::mainProposal);
            salon.vote();
            salon.moveMain(1);
            salon.vote();
            check.refused("voted on", NoSuchElementException.class, salon::mainProposal);
        });
        promises.test("Promise 26", "Returns true if it is closed.", check -> {
            TeaspoonSalon salon = Setting.withList(50);
            check.due("at first", false, salon.isClosed());
            Setting.move(salon, "mc");
            check.due("moved", false, salon.isClosed());
            salon.vote();
            check.due("adopted", true, salon.isClosed());
            salon.vote();
            check.due("an empty table", false, salon.isClosed());
        });
    }

    private static void canMove(Sentences promises) {
        promises.test("Promise 27", "- `kind`: the kind of the motion; for 'm' about some proposal on the list", check -> {
            TeaspoonSalon salon = new TeaspoonSalon();
            check.due("an empty list", false, salon.canMove('m'));
            salon.propose(50);
            check.due("one proposal", true, salon.canMove('m'));
            Setting.move(salon, "m").vote();
            check.due("an empty list again", false, salon.canMove('m'));
        });
        promises.test("Promise 27", "Returns true if it can be made.", check -> {
            String[][] tables = {{"", "mj"}, {"m", "apcj"}, {"ma", "pcj"}, {"mp", "cj"}, {"mc", "j"}, {"mapcj", ""}, {"j", ""}};
            for (String[] table : tables) {
                TeaspoonSalon salon = Setting.move(Setting.withList(50), table[0]);
                check.due("on " + table[0], table[1], movable(salon));
            }
            TeaspoonSalon closed = Setting.move(Setting.withList(50), "mc");
            closed.vote();
            check.due("on a closed m", "pcj", movable(closed));
        });
        promises.test("Promise 27", "Throws `IllegalArgumentException` if there is no such kind", check -> {
            TeaspoonSalon salon = Setting.withList(50);
            for (int kind = 0; kind < 400; kind++) {
                char sign = (char) kind;
                boolean isKind = "mapcj".indexOf(sign) >= 0;
                Object answer = Check.answerOf(() -> salon.canMove(sign));
                check.due("canMove " + kind, isKind, !"throws IllegalArgumentException".equals(answer));
            }
            check.refused("the last sign", IllegalArgumentException.class, () -> salon.canMove((char) 0xffff));
        });
    }

    private static String movable(TeaspoonSalon salon) {
        StringBuilder kinds = new StringBuilder();
        for (char kind : "mapcj".toCharArray()) {
            if (salon.canMove(kind)) {
                kinds.append(kind);
            }
        }
        return kinds.toString();
    }

    private static void votes(Sentences promises) {
        promises.test("Promise 28", "Returns the sum of the weights.", check -> {
            TeaspoonSalon salon = Setting.propose(Setting.eightSpoons(), 60);
            check.due("m at 60", 4 + 5 + 6 + 7 + 8, Setting.move(salon, "m").yesVotes());
            check.due("a by 1", 7 + 8 + 9, Setting.move(salon, "a").yesVotes());
            check.due("p", 1 + 9 + 3, Setting.move(salon, "p").yesVotes());
            check.due("c", 0, Setting.move(salon, "c").yesVotes());
            salon.speak(1);
            check.due("now", 9, salon.yesVotes());
            salon.speak(1);
            check.due("once for two speeches", 9, salon.yesVotes());
            check.due("no vote was counted", "throws ArithmeticException", Check.answerOf(salon::adoptedShare));
        });
        promises.test("Promise 28", EMPTY_TABLE, check -> expectMotion(check, TeaspoonSalon::yesVotes));
        promises.test("Promise 29", "Returns true if it would be adopted.", check -> {
            TeaspoonSalon salon = Setting.move(Setting.propose(Setting.withSpoons(2, 50, 2, 99), 50), "m");
            check.due("half", false, salon.wouldPass());
            salon.addSpoon(1, 25);
            check.due("more", true, salon.wouldPass());
            check.due("it is not voted on", 1, salon.motionCount());
            Setting.move(salon, "c");
            check.due("nothing of 5", false, salon.wouldPass());
            salon.speak(1);
            salon.speak(2);
            check.due("3 of 5", false, salon.wouldPass());
            salon.undo();
            salon.speak(0);
            check.due("4 of 5", true, salon.wouldPass());
        });
        promises.test("Promise 29", EMPTY_TABLE, check -> expectMotion(check, TeaspoonSalon::wouldPass));
        promises.test("Promise 30", "Returns true if it would vote yes.", check -> {
            TeaspoonSalon salon = Setting.move(Setting.propose(Setting.eightSpoons(), 55), "m");
            check.due("within 25", "false true true true true", salon.votesYes(1) + " " + salon.votesYes(2) + " "
                    + salon.votesYes(3) + " " + salon.votesYes(6) + " " + salon.votesYes(7));
        });
        promises.test("Promise 30", NO_SPOON, check -> {
            TeaspoonSalon salon = Setting.withSpoons(1, 1, 1, 1, 1, 1);
            check.refused("none on nothing", IndexOutOfBoundsException.class, () -> salon.votesYes(3));
            check.refused("below one on nothing", IndexOutOfBoundsException.class, () -> salon.votesYes(-1));
            salon.moveAdjournment();
            check.takesBelow(3, "votesYes", IndexOutOfBoundsException.class, salon::votesYes);
            TeaspoonSalon full = Setting.eightSpoons();
            full.moveAdjournment();
            check.takesBelow(8, "votesYes", IndexOutOfBoundsException.class, full::votesYes);
            TeaspoonSalon none = Setting.move(new TeaspoonSalon(), "j");
            check.takesBelow(0, "votesYes", IndexOutOfBoundsException.class, none::votesYes);
        });
        promises.test("Promise 30", EMPTY_TABLE, check -> expectMotion(check, salon -> salon.votesYes(0)));
    }

    private static void expectMotion(Check check, Query query) {
        TeaspoonSalon salon = Setting.propose(Setting.withSpoons(1, 50), 50);
        check.refused("at first", NoSuchElementException.class, () -> query.answer(salon));
        Setting.move(salon, "m");
        check.due("on m", false, String.valueOf(Check.answerOf(() -> query.answer(salon))).startsWith("throws "));
        salon.vote();
        check.refused("voted on", NoSuchElementException.class, () -> query.answer(salon));
    }

    private interface Query {
        Object answer(TeaspoonSalon salon);
    }
}
