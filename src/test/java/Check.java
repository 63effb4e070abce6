/** Counts and prints the answers that are not as due. */
final class Check {
    interface Call {
        Object answer();
    }

    private static int wrong = 0;
    private static int looked = 0;

    private Check() {
    }

    static void is(String what, Object got, Object due) {
        looked++;
        if (!got.equals(due)) {
            wrong++;
            System.out.println(what + " answered " + got + ", due is " + due);
        }
    }

    static void fails(String what, Class<? extends RuntimeException> due, Call call) {
        Object got;
        try {
            got = call.answer();
        } catch (RuntimeException e) {
            got = e.getClass().getName();
        }
        is(what, got, due.getName());
    }

    static void end(String test) {
        System.out.println(test + ": " + looked + " answers, " + wrong + " of them wrong");
        if (wrong != 0) {
            System.exit(1);
        }
    }
}
