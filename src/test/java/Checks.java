/** Counts and prints the answers that are not due. */
final class Checks {
    private int wrong;

    void due(String what, Object got, Object want) {
        if (!String.valueOf(want).equals(String.valueOf(got))) {
            wrong++;
            if (wrong <= 50) {
                System.out.println(what + " answered " + got + ", due is " + want);
            }
        }
    }

    /** A call whose answer, or whose exception's name, is compared. */
    interface Call {
        Object answer();
    }

    static Object answerOf(Call call) {
        try {
            return call.answer();
        } catch (RuntimeException e) {
            return "throws " + e.getClass().getSimpleName();
        }
    }

    void throwsDue(String what, Call call, Class<? extends RuntimeException> want) {
        due(what, answerOf(call), "throws " + want.getSimpleName());
    }

    int wrongAnswers() {
        return wrong;
    }

    void end() {
        System.out.println(wrong == 0 ? "all answers are as due" : wrong + " answers are not as due");
        if (wrong != 0) {
            System.exit(1);
        }
    }
}
