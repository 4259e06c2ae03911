import java.util.NoSuchElementException;

/** What a query about a proposal answers for ids on the list and for others. */
final class ListIds {
    private ListIds() {
    }

    interface Query {
        Object answer(TeaspoonSalon salon, int id);
    }

    /** Asked about ids of an empty list, of full ones, and of one from which the first and the last are gone. */
    static void expectFor(Check check, Query query) {
        TeaspoonSalon none = new TeaspoonSalon();
        check.takesBelow(0, "an empty list, id", NoSuchElementException.class, id -> query.answer(none, id));
        TeaspoonSalon salon = Setting.propose(Setting.eightSpoons(), 10, 50, 20, 60, 45, 99);
        check.takesBelow(6, "a full list, id", NoSuchElementException.class, id -> query.answer(salon, id));
        salon.moveMain(5);
        check.due("not adopted", false, salon.vote());
        salon.propose(40);
        check.due("a new one", "an answer", asked(query, salon, 6));
        check.due("in its place", "throws NoSuchElementException", asked(query, salon, 5));
        salon.moveMain(3);
        check.due("adopted", true, salon.vote());
        check.due("in the minutes", "throws NoSuchElementException", asked(query, salon, 3));
        check.due("another", "an answer", asked(query, salon, 4));
        check.due("not yet", "throws NoSuchElementException", asked(query, salon, 7));
    }

    private static Object asked(Query query, TeaspoonSalon salon, int id) {
        Object answer = Check.answerOf(() -> query.answer(salon, id));
        return String.valueOf(answer).startsWith("throws ") ? answer : "an answer";
    }
}
