/** Counts what is not as it is due, and prints it. */
final class Check {
    private static final int MOST_PRINTED = 40;

    private static int wrong;
    private static int looked;
    private static String about = "";

    private Check() {
    }

    /** A call whose answer is looked at. */
    interface Call {
        Object answer();
    }

    /** A call without an answer, of which only what it throws is looked at. */
    interface Deed {
        void done();
    }

    /** What the next looks are about is printed with those that go wrong. */
    static void about(String what) {
        about = what.isEmpty() ? "" : "(" + what + ") ";
    }

    static int looked() {
        return looked;
    }

    static void same(String what, Object due, Object answer) {
        looked++;
        if (!due.equals(answer)) {
            wrong++;
            if (wrong <= MOST_PRINTED) {
                System.out.println(about + what + ": " + answer + ", due " + due);
            }
        }
    }

    static void holds(String what, boolean answer) {
        same(what, true, answer);
    }

    /** That a call throws just this exception. */
    static void fails(String what, Class<? extends RuntimeException> due, Call call) {
        same(what, due.getSimpleName(), outcome(call));
    }

    static void refuses(String what, Class<? extends RuntimeException> due, Deed deed) {
        fails(what, due, () -> {
            deed.done();
            return "nothing";
        });
    }

    /** A call's answer, or the name of what it throws. */
    static String outcome(Call call) {
        try {
            return String.valueOf(call.answer());
        } catch (RuntimeException e) {
            return e.getClass().getSimpleName();
        }
    }

    /** Ends the test, with exit code 1 if something was wrong. */
    static void done(String name) {
        System.out.println(name + ": " + looked + " looked at, " + wrong + " wrong");
        if (wrong > 0 || looked == 0) {
            System.exit(1);
        }
    }
}
