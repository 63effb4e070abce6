/** Counts and prints the answers that are not as due. */
final class Check {
    interface Call {
        Object answer();
    }

    private static int wrong = 0;
    private static int looked = 0;
    private static String sentence = "";

    private Check() {
    }

    /** What is looked at from here on is about this sentence of the document. */
    static void about(String words) {
        sentence = "[" + words + "] ";
    }

    static void is(String what, Object got, Object due) {
        looked++;
        if (!got.equals(due)) {
            wrong++;
            System.out.println(sentence + what + " answered " + got + ", due is " + due);
        }
    }

    static void fails(String what, Class<? extends RuntimeException> due, Call call) {
        is(what, outcome(call), due.getName());
    }

    /** The answer of a call, or the name of what it throws. */
    static Object outcome(Call call) {
        try {
            return call.answer();
        } catch (RuntimeException e) {
            return e.getClass().getName();
        }
    }

    static void end(String test) {
        System.out.println(test + ": " + looked + " answers, " + wrong + " of them wrong");
        if (wrong != 0) {
            System.exit(1);
        }
    }
}
