import java.lang.reflect.Field;
import java.lang.reflect.InvocationTargetException;
import java.util.List;
import java.util.Map;
import java.util.Random;
import java.util.TreeMap;

/**
 * Code made by chance, compared with the Java machine itself, whose instructions these are: what has a fault by flow it
 * refuses, the frames that are written it takes, and what runs, runs alike. Left out is that in which the document goes
 * other ways: interfaces; UNINITIALIZED, which is no reference, at 165, 166, 198, 199; and some handlers.
 */
final class JavaMachineTest {
    private static final int WORLDS = 1500;
    private static final int FUEL = 20000;
    private static final Map<String, Integer> SEEN = new TreeMap<>();

    private final int seed;
    private final Chance chance;
    private final MapFramer framer;

    private JavaMachineTest(int seed) {
        this.seed = seed;
        chance = new Chance(seed, true);
        framer = chance.kit.framer;
    }

    public static void main(String[] args) throws ReflectiveOperationException {
        int from = args.length > 1 ? Integer.parseInt(args[1]) : 0;
        for (int seed = from; seed < from + WORLDS; seed++) {
            new JavaMachineTest(seed).go();
        }
        System.out.println(SEEN);
        for (String what : List.of("fault 0", "fault 6", "fault 7", "fault 8", "fault 9", "frames", "end 0", "end 1")) {
            Check.same("there was " + what, SEEN.containsKey(what), true);
        }
        Check.end("JavaMachineTest");
    }

    private static void see(String what) {
        SEEN.merge(what, 1, Integer::sum);
    }

    private void go() throws ReflectiveOperationException {
        int methods = chance.tell();
        boolean isAlike = true;
        JavaMachine machine = new JavaMachine(chance, true);
        for (int k = 0; k < methods; k++) {
            isAlike = isAlike && !goesOtherWays(chance.model.routines.get(k));
            chance.kit.verify(k);
        }
        for (int k = 0; k < methods && isAlike; k++) {
            compareFlow(k);
            compareFrames(machine, k);
        }
        for (int k = 0; k < methods && isAlike; k++) {
            compareRun(machine, k);
            compareRun(machine, k);
        }
    }

    /** Handlers that the Java machine takes otherwise: of 183, behind a store, at the beginning, or with no stack. */
    private static boolean goesOtherWays(Model.Routine routine) {
        for (Model.Trap trap : routine.traps) {
            if (trap.place == 0 || routine.maxStack == 0) {
                return true;
            }
            for (int place = 0; place < routine.code.length; place += Math.max(1, Model.size(routine.code[place]))) {
                int op = routine.code[place];
                boolean isStore = op == 54 || op == 55 || op == 58;
                if (isStore && trap.to == place + 2 || op == 183 && trap.from <= place && place < trap.to) {
                    return true;
                }
            }
        }
        return false;
    }

    /** Whether the fault is at a comparison of references, which the Java machine makes of UNINITIALIZED, too. */
    private boolean isAtComparison(int method) {
        int op = framer.codeAt(method, framer.about(method, 1));
        return op == 165 || op == 166 || op == 198 || op == 199;
    }

    private void compareFlow(int method) {
        int fault = framer.about(method, 0);
        if (fault == 0 || fault >= 6 && fault <= 9 && !(fault == 6 && isAtComparison(method))) {
            see("fault " + fault);
            String against = new JavaMachine(chance, false).verify(method);
            Check.same("seed " + seed + " method " + method + " is refused, by flow, fault " + fault + ": " + against,
                !against.equals("none"), fault != 0);
        }
    }

    private void compareFrames(JavaMachine machine, int method) {
        if (framer.about(method, 0) == 0) {
            see(framer.about(method, 8) == 0 ? "no frames" : "frames");
            Check.same("seed " + seed + " method " + method + " by frames", machine.verify(method), "none");
        }
    }

    private void compareRun(JavaMachine machine, int method) throws ReflectiveOperationException {
        Random random = chance.random;
        long a = random.nextInt(3) == 0 ? random.nextLong() : random.nextInt(7) - 3;
        long b = random.nextInt(3) == 0 ? random.nextLong() : random.nextInt(7) - 3;
        String got = "threw";
        try {
            got = "returned " + framer.run(method, a, b, FUEL);
        } catch (IllegalArgumentException | IllegalStateException e) {
            return;
        } catch (UnsupportedOperationException e) {
            if (framer.end(0) != 1) {
                return;
            }
            got = "threw " + framer.end(2);
        }
        see("end " + framer.end(0));
        got = got + ", fuel " + framer.end(1) + ", made " + framer.end(3);
        Check.same("seed " + seed + " run(" + method + ", " + a + ", " + b + ")", got, runOf(machine, method, a, b));
    }

    private String runOf(JavaMachine machine, int method, long a, long b) throws ReflectiveOperationException {
        for (Field field : machine.statics().getFields()) {
            Class<?> type = field.getType();
            field.set(null, type == int.class ? (Object) 0 : type == long.class ? (Object) 0L : null);
        }
        List<String> types = chance.model.routines.get(method).arguments;
        Object[] given = new Object[types.size()];
        for (int k = 0; k < given.length; k++) {
            long value = k == 0 ? a : k == 1 ? b : 0;
            given[k] = types.get(k).equals("I") ? (Object) (int) value : (Object) value;
        }
        Meter.start(FUEL);
        String end;
        try {
            end = "returned " + answer(machine.methodClass(method).getDeclaredMethods()[0].invoke(null, given), method);
        } catch (InvocationTargetException e) {
            Meter.come(e.getCause());
            end = e.getCause() instanceof RuntimeException ? "threw " + classOf(e.getCause()) : e.getCause().toString();
        }
        return end + ", fuel " + Meter.used() + ", made " + Meter.made();
    }

    /** A result as run() answers it. */
    private String answer(Object result, int method) {
        String type = chance.model.routines.get(method).result;
        if (type.equals("V")) {
            return "0";
        }
        if (result == null) {
            return "-1";
        }
        return type.equals("I") || type.equals("J") ? result.toString() : String.valueOf(classOf(result));
    }

    private static int classOf(Object object) {
        Class<?> type = object.getClass();
        if (type.isArray()) {
            return 32;
        }
        if (type.getName().startsWith("made.C")) {
            return Integer.parseInt(type.getName().substring("made.C".length()));
        }
        return type == Object.class ? 0 : 1;
    }
}
