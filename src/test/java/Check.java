/** What the tests share: counting wrong answers, telling them, and the exit code. */
final class Check {
    /** A call that may throw. */
    interface Call {
        Object answer();
    }

    private static int wrong = 0;
    private static int tested = 0;

    private Check() {
    }

    /** The answer as a text, or the name of the exception. */
    static String outcome(Call call) {
        try {
            return String.valueOf(call.answer());
        } catch (RuntimeException e) {
            return e.getClass().getSimpleName();
        }
    }

    static void due(String what, Object want, Call call) {
        tested++;
        String got = outcome(call);
        if (!got.equals(String.valueOf(want))) {
            wrong++;
            System.out.println(what + " answered " + got + ", due is " + want);
        }
    }

    static void range(String what, Call call) {
        due(what, "IndexOutOfBoundsException", call);
    }

    static void argument(String what, Call call) {
        due(what, "IllegalArgumentException", call);
    }

    static void missing(String what, Call call) {
        due(what, "NoSuchElementException", call);
    }

    /** The call must be refused for a reason. */
    static void refused(String what, int reason, Box box, Call call) {
        due(what, "IllegalStateException", call);
        due(what + ", the reason", reason, box::reason);
    }

    static void end(String name) {
        System.out.println(name + ": " + tested + " answers tested, " + wrong + " wrong");
        if (wrong > 0) {
            System.exit(1);
        }
    }
}
