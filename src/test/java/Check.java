import java.util.Objects;

/** Counts what the tests find; each test ends with end(), which exits with 1 if something was not as due. */
final class Check {
    interface Call {
        Object answer();
    }

    private static int right = 0;
    private static int wrong = 0;

    private Check() {
    }

    static void due(String what, Object due, Object got) {
        if (Objects.equals(due, got)) {
            right++;
        } else {
            wrong++;
            System.out.println(what + " answered " + got + ", due is " + due);
        }
    }

    static void dueThrow(String what, Class<? extends RuntimeException> due, Call call) {
        due(what, "throws." + due.getSimpleName(), outcome(call));
    }

    /** The class itself counts, not a class above it: the machine's own exceptions are never due. */
    static Object outcome(Call call) {
        try {
            return call.answer();
        } catch (RuntimeException e) {
            return "throws." + e.getClass().getSimpleName();
        }
    }

    static int wrongSoFar() {
        return wrong;
    }

    static void end() {
        System.out.println(right + " checks as due, " + wrong + " not");
        if (wrong != 0 || right == 0) {
            System.exit(1);
        }
    }
}
