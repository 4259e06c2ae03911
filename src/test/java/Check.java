import java.util.Objects;

/** Counts the answers that are not due. */
final class Check {
    interface Call {
        Object answer();
    }

    private int answers;
    private int wrong;

    void due(String what, Object want, Object got) {
        answers++;
        if (!Objects.equals(want, got)) {
            wrong++;
            System.out.println(what + " answered " + got + ", due is " + want);
        }
    }

    /** The class must be the one named: what the machine throws is of a class below it. */
    void refused(String what, Class<? extends RuntimeException> want, Call call) {
        due(what, "throws " + want.getSimpleName(), answerOf(call));
    }

    interface CallAt {
        Object answer(int index);
    }

    /** Of the numbers at and about the ends of int, of zero and of the count, those from 0 to count - 1 alone are taken. */
    void takesBelow(int count, String what, Class<? extends RuntimeException> want, CallAt call) {
        int[] edges = {Integer.MIN_VALUE, -2, -1, 0, count - 1, count, count + 1, Integer.MAX_VALUE};
        for (int index : edges) {
            String answer = String.valueOf(answerOf(() -> call.answer(index)));
            boolean isTaken = index >= 0 && index < count;
            due(what + " of " + index, isTaken ? "an answer" : "throws " + want.getSimpleName(),
                    answer.startsWith("throws ") ? answer : "an answer");
        }
    }

    static Object answerOf(Call call) {
        try {
            return call.answer();
        } catch (RuntimeException thrown) {
            return "throws " + thrown.getClass().getSimpleName();
        }
    }

    int answers() {
        return answers;
    }

    int wrong() {
        return wrong;
    }

    void end() {
        if (wrong > 0) {
            System.out.println(wrong + " of " + answers + " answers are not due");
            System.exit(1);
        }
        System.out.println(answers + " answers are as due");
    }
}
