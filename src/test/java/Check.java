import java.util.function.IntSupplier;

/** Counts answers that are due and those that are not, and prints the latter. */
final class Check {
    private final String name;
    private int right = 0;
    private int wrong = 0;

    Check(String name) {
        this.name = name;
    }

    /** A call's answer as a text: the number, or throws.X of the exception. */
    static String answer(IntSupplier call) {
        try {
            return Integer.toString(call.getAsInt());
        } catch (RuntimeException e) {
            return "throws." + e.getClass().getSimpleName();
        }
    }

    /** The same of a call without an answer: nothing, or throws.X. */
    static String answerOf(Runnable call) {
        try {
            call.run();
            return "nothing";
        } catch (RuntimeException e) {
            return "throws." + e.getClass().getSimpleName();
        }
    }

    void is(String what, int due, IntSupplier call) {
        same(what, Integer.toString(due), answer(call));
    }

    void fails(String what, Class<? extends RuntimeException> due, IntSupplier call) {
        same(what, "throws." + due.getSimpleName(), answer(call));
    }

    void passes(String what, Runnable call) {
        same(what, "nothing", answerOf(call));
    }

    void failsOf(String what, Class<? extends RuntimeException> due, Runnable call) {
        same(what, "throws." + due.getSimpleName(), answerOf(call));
    }

    void same(String what, String due, String got) {
        if (due.equals(got)) {
            right++;
        } else {
            wrong++;
            System.out.println(name + ": " + what + " answered " + got + ", due is " + due);
        }
    }

    int wrong() {
        return wrong;
    }

    void end() {
        System.out.println(name + ": " + right + " answers as due, " + wrong + " not");
        if (wrong != 0 || right == 0) {
            System.exit(1);
        }
    }
}
