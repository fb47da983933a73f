import java.util.ArrayList;
import java.util.Arrays;
import java.util.List;
import java.util.Random;
import java.util.TreeMap;
import java.util.Map;

/** All promises at once: code made by chance, told to a MapFramer and to the model, and all their answers compared. */
final class MatchTest {
    private static final int WORLDS = 4000;
    private final Chance chance;
    private final Random random;
    private final int seed;
    private final Kit kit;
    private final Model model;
    private static final Map<String, Integer> SEEN = new TreeMap<>();

    private MatchTest(int seed) {
        this.seed = seed;
        chance = new Chance(seed, false);
        random = chance.random;
        kit = chance.kit;
        model = chance.model;
    }

    public static void main(String[] args) {
        for (int seed = 0; seed < WORLDS; seed++) {
            new MatchTest(seed).go();
            new MatchTest(seed).goThroughHoles();
        }
        System.out.println(SEEN);
        for (String what : List.of("fault 0", "fault 1", "fault 2", "fault 3", "fault 4", "fault 5", "fault 6",
                "fault 7", "fault 8", "fault 9", "fault 10", "12 handlers left", "end 0", "end 1", "end 2", "end 3", "end 4")) {
            Check.same("there was " + what, SEEN.containsKey(what), true);
        }
        Check.end("MatchTest");
    }

    private static void see(String what) {
        SEEN.merge(what, 1, Integer::sum);
    }

    private void go() {
        int methods = chance.tell();
        for (int k = 0; k < methods; k++) {
            verify(k);
        }
        for (int k = 0; k < methods; k++) {
            run(k);
            run(k);
        }
    }

    /** One method with many rows of dead code, and handlers that these cut. */
    private void goThroughHoles() {
        List<Integer> code = new ArrayList<>();
        List<Integer> places = new ArrayList<>();
        int rows = 1 + random.nextInt(13);
        for (int k = 0; k < rows; k++) {
            add(code, places, 0, random.nextInt(4));
            int dead = 1 + random.nextInt(2);
            places.add(code.size());
            code.addAll(List.of(167, 0, 3 + dead));
            add(code, places, 0, dead);
        }
        add(code, places, 177, 1);
        add(code, places, 87, 1);
        add(code, places, 177, 1);
        Model.Routine routine = new Model.Routine();
        routine.result = "V";
        routine.maxStack = 12;
        routine.code = code.stream().mapToInt(Integer::intValue).toArray();
        model.routines.add(routine);
        kit.told(0, 0, routine.maxStack, 0, routine.code);
        places.add(code.size());
        int handlers = 1 + random.nextInt(6);
        for (int k = 0; k < handlers; k++) {
            int from = random.nextInt(places.size() - 1);
            int to = from + 1 + random.nextInt(places.size() - from - 1);
            Model.Trap trap = new Model.Trap(places.get(from), places.get(to), code.size() - 2, 1);
            routine.traps.add(trap);
            kit.framer.handler(0, trap.from, trap.to, trap.place, MapFramer.NONE);
        }
        verify(0);
        run(0);
    }

    private static void add(List<Integer> code, List<Integer> places, int op, int times) {
        for (int k = 0; k < times; k++) {
            places.add(code.size());
            code.add(op);
        }
    }

    private void verify(int k) {
        Model.Routine routine = model.routines.get(k);
        String due = model.verify(routine) ? String.valueOf(routine.frameCount) : "a fault";
        String got;
        try {
            got = String.valueOf(kit.framer.verify(k));
        } catch (UnsupportedOperationException e) {
            got = "a fault";
        }
        see("fault " + routine.fault);
        String what = "seed " + seed + " method " + k + " " + Arrays.toString(routine.code);
        Check.same(what, got, due);
        Check.same(what + " fault", kit.fault(k), routine.fault == 0 ? "none" : routine.fault + " at " + routine.faultAt);
        Check.same(what + " about", about(k), List.of(routine.fault, routine.faultAt, 1, routine.code.length,
            routine.frames.size(), routine.traps.size(), routine.maxStack, routine.maxLocals, routine.frameCount));
        Check.same(what + " code", kit.code(k), join(Arrays.stream(routine.code).boxed().toList()));
        Check.same(what + " frames", kit.frames(k), join(routine.frames));
        StringBuilder traps = new StringBuilder();
        for (Model.Trap t : routine.traps) {
            traps.append(traps.length() == 0 ? "" : " ").append(t.from + "-" + t.to + ">" + t.place + ":" + t.caught);
        }
        Check.same(what + " handlers", kit.handlers(k), traps);
        for (int place = 0; place < routine.code.length && routine.maxLocals > 0; place++) {
            Check.same(what + " types at " + place, kit.types(k, place), types(routine.types.get(place)));
        }
        if (routine.traps.size() > 6) {
            see("more than 6 handlers left");
        }
        if (routine.traps.size() == 12) {
            see("12 handlers left");
        }
        if (!routine.types.isEmpty() && Arrays.stream(routine.code).filter(b -> b == 191).count() > 1) {
            see("several 191");
        }
    }

    private List<Integer> about(int k) {
        List<Integer> all = new ArrayList<>();
        for (int which = 0; which <= 8; which++) {
            all.add(kit.framer.about(k, which));
        }
        return all;
    }

    private static String join(List<Integer> all) {
        StringBuilder text = new StringBuilder();
        for (int one : all) {
            text.append(text.length() == 0 ? "" : " ").append(one);
        }
        return text.toString();
    }

    private static String types(Model.Types types) {
        if (types == null) {
            return "-";
        }
        StringBuilder text = new StringBuilder();
        for (String type : types.locals) {
            text.append(Model.typeNumber(type)).append(' ');
        }
        text.append('|');
        for (String type : types.stack) {
            text.append(' ').append(Model.typeNumber(type));
        }
        return text.toString();
    }

    private void run(int k) {
        long a = random.nextInt(3) == 0 ? random.nextLong() : random.nextInt(7) - 3;
        long b = random.nextInt(3) == 0 ? random.nextLong() : random.nextInt(7) - 3;
        int fuel = random.nextInt(3) == 0 ? random.nextInt(30) : random.nextInt(3000);
        String due = model.run(k, a, b, fuel);
        String got;
        try {
            got = String.valueOf(kit.framer.run(k, a, b, fuel));
        } catch (IllegalArgumentException e) {
            got = "argument";
        } catch (IllegalStateException e) {
            got = "state";
        } catch (UnsupportedOperationException e) {
            got = "stopped";
        }
        String what = "seed " + seed + " run(" + k + ", " + a + ", " + b + ", " + fuel + ")";
        Check.same(what, got, due);
        List<Integer> ends = new ArrayList<>();
        for (int which = 0; which < 4; which++) {
            ends.add(kit.framer.end(which));
        }
        Check.same(what + " end", ends, List.of(model.ended, model.used, model.thrownClass, model.made));
        see(due.equals("argument") || due.equals("state") ? due : "end " + model.ended);
    }
}
