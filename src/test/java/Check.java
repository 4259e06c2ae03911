import java.util.Objects;

/** Counts the answers that are not due. */
final class Check {
    interface Call {
        Object answer();
    }

    private int answers;
    private int wrong;

    void due(String what, Object want, Object got) {
        answers++;
        if (!Objects.equals(want, got)) {
            wrong++;
            System.out.println(what + " answered " + got + ", due is " + want);
        }
    }

    /** The class must be the one named: what the machine throws is of a class below it. */
    void refused(String what, Class<? extends RuntimeException> want, Call call) {
        due(what, "throws " + want.getSimpleName(), answerOf(call));
    }

    static Object answerOf(Call call) {
        try {
            return call.answer();
        } catch (RuntimeException thrown) {
            return "throws " + thrown.getClass().getSimpleName();
        }
    }

    void end() {
        if (wrong > 0) {
            System.out.println(wrong + " of " + answers + " answers are not due");
            System.exit(1);
        }
        System.out.println(answers + " answers are as due");
    }
}
