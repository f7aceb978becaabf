/** Counts and prints the answers that are not due. */
final class Checks {
    private int wrong;

    void due(String what, Object got, Object want) {
        String one = String.valueOf(got);
        String two = String.valueOf(want);
        if (!two.equals(one)) {
            wrong++;
            if (wrong <= 50) {
                int same = countSame(one, two);
                System.out.println(what + " answered " + excerpt(one, same) + ", due is " + excerpt(two, same));
            }
        }
    }

    private static int countSame(String one, String two) {
        int same = 0;
        while (same < one.length() && same < two.length() && one.charAt(same) == two.charAt(same)) {
            same++;
        }
        return same;
    }

    /** A long text is cut to the signs round the first one that is another one. */
    private static String excerpt(String text, int at) {
        return text.length() < 200 ? text
            : ".. " + text.substring(Math.max(0, at - 30), Math.min(text.length(), at + 30)) + " ..";
    }

    /** A call whose answer, or whose exception's name, is compared. */
    interface Call {
        Object answer();
    }

    static Object answerOf(Call call) {
        try {
            return call.answer();
        } catch (RuntimeException e) {
            return "throws " + e.getClass().getSimpleName();
        }
    }

    void throwsDue(String what, Call call, Class<? extends RuntimeException> want) {
        due(what, answerOf(call), "throws " + want.getSimpleName());
    }

    int wrongAnswers() {
        return wrong;
    }

    void end() {
        System.out.println(wrong == 0 ? "all answers are as due" : wrong + " answers are not as due");
        if (wrong != 0) {
            System.exit(1);
        }
    }
}
