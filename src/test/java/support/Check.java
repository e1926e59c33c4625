/** Counts what is not as it is due, and prints it. */
final class Check {
    private static int wrong;
    private static int looked;

    private Check() {
    }

    /** A call whose answer is looked at. */
    interface Call {
        Object answer();
    }

    static void same(String what, Object due, Object answer) {
        looked++;
        if (!due.equals(answer)) {
            wrong++;
            if (wrong <= 40) {
                System.out.println(what + ": " + answer + ", due " + due);
            }
        }
    }

    static void holds(String what, boolean answer) {
        same(what, true, answer);
    }

    /** That a call throws just this exception. */
    static void fails(String what, Class<? extends RuntimeException> due, Call call) {
        String answer;
        try {
            answer = String.valueOf(call.answer());
        } catch (RuntimeException e) {
            answer = e.getClass().getSimpleName();
        }
        same(what, due.getSimpleName(), answer);
    }

    /** Ends the test, with exit code 1 if something was wrong. */
    static void done(String name) {
        System.out.println(name + ": " + looked + " looked at, " + wrong + " wrong");
        if (wrong > 0 || looked == 0) {
            System.exit(1);
        }
    }
}
