import java.util.Collections;
import java.util.IdentityHashMap;
import java.util.Set;

/** What classes made by JavaMachine call as they run: counts instructions and objects; public, so that they may. */
public final class Meter {
    private static final Set<Object> MADE_BY_MACHINE = Collections.newSetFromMap(new IdentityHashMap<>());
    private static int fuel;
    private static int used;
    private static int told;

    private Meter() {
    }

    static void start(int most) {
        MADE_BY_MACHINE.clear();
        fuel = most;
        used = 0;
        told = 0;
    }

    static int used() {
        return used;
    }

    static int made() {
        return told + MADE_BY_MACHINE.size();
    }

    /** An instruction. */
    public static void count() {
        used++;
        if (used > fuel) {
            throw new AssertionError("it does not end where it should");
        }
    }

    /** An object is to be made. */
    public static void make() {
        told++;
    }

    /** An array is to be made; the Java machine itself knows no longest one. */
    public static int make(int length) {
        if (length < 0 || length > 24) {
            throw new NegativeArraySizeException();
        }
        told++;
        return length;
    }

    /** Something came to a handler: one that code did not make is of a class under RuntimeException. */
    public static void come(Object thrown) {
        Class<?> type = thrown == null ? Object.class : thrown.getClass();
        boolean isOfJava = type.getName().startsWith("java.") && type != RuntimeException.class;
        if (isOfJava && thrown instanceof RuntimeException) {
            MADE_BY_MACHINE.add(thrown);
        }
    }
}
