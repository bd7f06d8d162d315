import java.util.concurrent.Callable;

/** Counts the answers that are not as due. */
final class Check {
    private static int answers = 0;
    private static int wrong = 0;

    private Check() {
    }

    /** Returns the answer of a call as a text: its value, or "throws." and the name of the exception. */
    static String answer(Callable<?> call) {
        try {
            return String.valueOf(call.call());
        } catch (Exception e) {
            return "throws." + e.getClass().getSimpleName();
        }
    }

    static void due(int promise, String what, Object want, Callable<?> call) {
        same("promise " + promise + ": " + what, String.valueOf(want), answer(call));
    }

    static void refused(int promise, String what, Class<?> want, Callable<?> call) {
        due(promise, what, "throws." + want.getSimpleName(), call);
    }

    static void same(String what, String want, String got) {
        answers++;
        if (!want.equals(got)) {
            wrong++;
            System.out.println(what + " answered " + got + ", due is " + want);
        }
    }

    static boolean anyWrong() {
        return wrong != 0;
    }

    static void end(String test) {
        System.out.println(test + ": " + answers + " answers, " + wrong + " not as due");
        if (wrong != 0) {
            System.exit(1);
        }
    }
}
