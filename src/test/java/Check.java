import java.util.Objects;

/** What the tests have in common: counting wrong answers, telling them, and ending with 1 if there was one. */
final class Check {
    /** A call of the face that may throw. */
    interface Asked {
        Object answer();
    }

    private static int checks;
    private static int wrong;

    private Check() {
    }

    static void same(String what, Object got, Object due) {
        checks++;
        if (!Objects.equals(String.valueOf(got), String.valueOf(due))) {
            wrong++;
            System.out.println(what + ": answered " + got + ", due is " + due);
        }
    }

    static void throwsAt(String what, Class<? extends RuntimeException> due, Asked asked) {
        checks++;
        String got;
        try {
            got = String.valueOf(asked.answer());
        } catch (RuntimeException e) {
            // one that the library throws is none of the face, whatever its class
            if (e.getClass() == due && e.getStackTrace()[0].getClassName().equals("MapFramer")) {
                return;
            }
            got = e + " from " + e.getStackTrace()[0].getClassName();
        }
        wrong++;
        System.out.println(what + ": answered " + got + ", due is " + due.getSimpleName());
    }

    static void illegalArgument(String what, Asked asked) {
        throwsAt(what, IllegalArgumentException.class, asked);
    }

    static void illegalState(String what, Asked asked) {
        throwsAt(what, IllegalStateException.class, asked);
    }

    static void outOfBounds(String what, Asked asked) {
        throwsAt(what, IndexOutOfBoundsException.class, asked);
    }

    static void unsupported(String what, Asked asked) {
        throwsAt(what, UnsupportedOperationException.class, asked);
    }

    /** Ends a test. */
    static void end(String name) {
        System.out.println(name + ": " + (checks - wrong) + " of " + checks + " as due");
        if (wrong != 0) {
            System.exit(1);
        }
    }
}
