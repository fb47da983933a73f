import java.util.ArrayList;
import java.util.Arrays;
import java.util.List;
import java.util.Random;
import java.util.TreeMap;
import java.util.Map;

/** All promises at once: code made by chance, told to a MapFramer and to the model, and all their answers compared. */
final class MatchTest {
    private static final int WORLDS = 4000;
    private final Random random;
    private final int seed;
    private final Kit kit = new Kit();
    private final Model model = new Model();
    private static final Map<String, Integer> SEEN = new TreeMap<>();

    private MatchTest(int seed) {
        this.seed = seed;
        random = new Random(seed);
    }

    public static void main(String[] args) {
        for (int seed = 0; seed < WORLDS; seed++) {
            new MatchTest(seed).go();
            new MatchTest(seed).goThroughHoles();
        }
        System.out.println(SEEN);
        for (String what : List.of("fault 0", "fault 1", "fault 2", "fault 3", "fault 4", "fault 5", "fault 6",
                "fault 7", "fault 8", "fault 9", "fault 10", "12 handlers left", "end 0", "end 1", "end 2", "end 3", "end 4")) {
            Check.same("there was " + what, SEEN.containsKey(what), true);
        }
        Check.end("MatchTest");
    }

    private static void see(String what) {
        SEEN.merge(what, 1, Integer::sum);
    }

    private void go() {
        int classes = random.nextInt(9);
        for (int k = 0; k < classes; k++) {
            addClass();
        }
        int fields = random.nextInt(8);
        for (int k = 0; k < fields; k++) {
            addField();
        }
        int methods = 1 + random.nextInt(5);
        for (int k = 0; k < methods; k++) {
            addMethod();
        }
        for (int k = 0; k < methods; k++) {
            addCode(k);
        }
        for (int k = 0; k < methods; k++) {
            verify(k);
        }
        for (int k = 0; k < methods; k++) {
            run(k);
            run(k);
        }
    }

    /** One method with many rows of dead code, and handlers that these cut. */
    private void goThroughHoles() {
        List<Integer> code = new ArrayList<>();
        List<Integer> places = new ArrayList<>();
        int rows = 1 + random.nextInt(13);
        for (int k = 0; k < rows; k++) {
            add(code, places, 0, random.nextInt(4));
            int dead = 1 + random.nextInt(2);
            places.add(code.size());
            code.addAll(List.of(167, 0, 3 + dead));
            add(code, places, 0, dead);
        }
        add(code, places, 177, 1);
        add(code, places, 87, 1);
        add(code, places, 177, 1);
        Model.Routine routine = new Model.Routine();
        routine.result = "V";
        routine.maxStack = 12;
        routine.code = code.stream().mapToInt(Integer::intValue).toArray();
        model.routines.add(routine);
        kit.told(0, 0, routine.maxStack, 0, routine.code);
        places.add(code.size());
        int handlers = 1 + random.nextInt(6);
        for (int k = 0; k < handlers; k++) {
            int from = random.nextInt(places.size() - 1);
            int to = from + 1 + random.nextInt(places.size() - from - 1);
            Model.Trap trap = new Model.Trap(places.get(from), places.get(to), code.size() - 2, 1);
            routine.traps.add(trap);
            kit.framer.handler(0, trap.from, trap.to, trap.place, MapFramer.NONE);
        }
        verify(0);
        run(0);
    }

    private static void add(List<Integer> code, List<Integer> places, int op, int times) {
        for (int k = 0; k < times; k++) {
            places.add(code.size());
            code.add(op);
        }
    }

    private void addClass() {
        boolean isInterface = random.nextInt(4) == 0;
        int parent = random.nextInt(model.parents.size());
        if (!isInterface && model.interfaces.get(parent)) {
            return;
        }
        kit.framer.cls(parent, isInterface);
        model.parents.add(isInterface ? 0 : parent);
        model.interfaces.add(isInterface);
    }

    private int type() {
        int k = random.nextInt(8);
        return k < 4 ? k + 1 : (k < 7 ? 32 : 64) + random.nextInt(model.parents.size());
    }

    private void addField() {
        Model.Field field = new Model.Field();
        int type = type();
        field.type = Model.typeName(type);
        field.owner = random.nextInt(model.parents.size());
        field.isStatic = field.owner == 0 || model.interfaces.get(field.owner) || random.nextInt(3) == 0;
        kit.framer.field(field.owner, type, field.isStatic);
        model.fields.add(field);
    }

    private void addMethod() {
        Model.Routine routine = new Model.Routine();
        int count = random.nextInt(5);
        int[] types = new int[count];
        for (int k = 0; k < count; k++) {
            types[k] = random.nextInt(3) != 0 ? 1 + random.nextInt(2) : type();
            routine.arguments.add(Model.typeName(types[k]));
        }
        int result = random.nextInt(4) == 0 ? 0 : type();
        routine.result = Model.typeName(result);
        kit.framer.method(Kit.pack(types), result);
        model.routines.add(routine);
    }

    private void addCode(int k) {
        Model.Routine routine = model.routines.get(k);
        int words = 0;
        for (String type : routine.arguments) {
            words += type.equals("J") ? 2 : 1;
        }
        routine.maxLocals = words + random.nextInt(13 - words);
        routine.maxStack = random.nextInt(8) == 0 ? random.nextInt(13) : 3 + random.nextInt(10);
        Maker maker = new Maker(model, routine, random);
        int[] code = maker.make(1 + random.nextInt(100));
        code = Arrays.copyOf(code, Math.min(120, code.length));
        if (random.nextInt(4) == 0) {
            code[random.nextInt(code.length)] = random.nextInt(4) == 0 ? random.nextInt(256) : random.nextInt(11);
        }
        if (random.nextInt(8) == 0) {
            routine.maxStack = Math.max(0, routine.maxStack - 1 - random.nextInt(6));
        }
        if (random.nextInt(20) == 0) {
            routine.maxLocals = Math.max(words, routine.maxLocals - 1);
        }
        kit.code(k, routine.maxStack, routine.maxLocals, code);
        routine.code = code;
        addTraps(maker, code.length);
        for (Model.Trap trap : maker.traps) {
            if (trap.to <= 120 && trap.place <= 120) {
                kit.framer.handler(k, trap.from, trap.to, trap.place, trap.caught == 1 && random.nextBoolean()
                    ? MapFramer.NONE : trap.caught);
                routine.traps.add(trap);
            }
        }
    }

    /** More handlers: some of them anywhere, some wide ones, that dead rows may cut, to places that handlers have. */
    private void addTraps(Maker maker, int length) {
        boolean isWild = random.nextInt(15) == 0;
        boolean isWide = random.nextInt(3) == 0;
        while (maker.traps.size() < 6 && isWild && random.nextInt(3) != 0) {
            int from = random.nextInt(length);
            maker.traps.add(new Model.Trap(from, from + random.nextInt(10), random.nextInt(length), 1));
        }
        List<Integer> places = maker.places();
        while (maker.traps.size() < 6 && isWide && !maker.traps.isEmpty() && random.nextInt(6) != 0) {
            Model.Trap old = maker.traps.get(random.nextInt(maker.traps.size()));
            int from = places.get(random.nextInt(places.size()));
            maker.traps.add(new Model.Trap(Math.min(from, old.from), random.nextBoolean() ? length : old.to, old.place,
                old.caught));
        }
    }

    private void verify(int k) {
        Model.Routine routine = model.routines.get(k);
        String due = model.verify(routine) ? String.valueOf(routine.frameCount) : "a fault";
        String got;
        try {
            got = String.valueOf(kit.framer.verify(k));
        } catch (UnsupportedOperationException e) {
            got = "a fault";
        }
        see("fault " + routine.fault);
        String what = "seed " + seed + " method " + k + " " + Arrays.toString(routine.code);
        Check.same(what, got, due);
        Check.same(what + " fault", kit.fault(k), routine.fault == 0 ? "none" : routine.fault + " at " + routine.faultAt);
        Check.same(what + " about", about(k), List.of(routine.fault, routine.faultAt, 1, routine.code.length,
            routine.frames.size(), routine.traps.size(), routine.maxStack, routine.maxLocals, routine.frameCount));
        Check.same(what + " code", kit.code(k), join(Arrays.stream(routine.code).boxed().toList()));
        Check.same(what + " frames", kit.frames(k), join(routine.frames));
        StringBuilder traps = new StringBuilder();
        for (Model.Trap t : routine.traps) {
            traps.append(traps.length() == 0 ? "" : " ").append(t.from + "-" + t.to + ">" + t.place + ":" + t.caught);
        }
        Check.same(what + " handlers", kit.handlers(k), traps);
        for (int place = 0; place < routine.code.length && routine.maxLocals > 0; place++) {
            Check.same(what + " types at " + place, kit.types(k, place), types(routine.types.get(place)));
        }
        if (routine.traps.size() > 6) {
            see("more than 6 handlers left");
        }
        if (routine.traps.size() == 12) {
            see("12 handlers left");
        }
        if (!routine.types.isEmpty() && Arrays.stream(routine.code).filter(b -> b == 191).count() > 1) {
            see("several 191");
        }
    }

    private List<Integer> about(int k) {
        List<Integer> all = new ArrayList<>();
        for (int which = 0; which <= 8; which++) {
            all.add(kit.framer.about(k, which));
        }
        return all;
    }

    private static String join(List<Integer> all) {
        StringBuilder text = new StringBuilder();
        for (int one : all) {
            text.append(text.length() == 0 ? "" : " ").append(one);
        }
        return text.toString();
    }

    private static String types(Model.Types types) {
        if (types == null) {
            return "-";
        }
        StringBuilder text = new StringBuilder();
        for (String type : types.locals) {
            text.append(Model.typeNumber(type)).append(' ');
        }
        text.append('|');
        for (String type : types.stack) {
            text.append(' ').append(Model.typeNumber(type));
        }
        return text.toString();
    }

    private void run(int k) {
        long a = random.nextInt(3) == 0 ? random.nextLong() : random.nextInt(7) - 3;
        long b = random.nextInt(3) == 0 ? random.nextLong() : random.nextInt(7) - 3;
        int fuel = random.nextInt(3) == 0 ? random.nextInt(30) : random.nextInt(3000);
        String due = model.run(k, a, b, fuel);
        String got;
        try {
            got = String.valueOf(kit.framer.run(k, a, b, fuel));
        } catch (IllegalArgumentException e) {
            got = "argument";
        } catch (IllegalStateException e) {
            got = "state";
        } catch (UnsupportedOperationException e) {
            got = "stopped";
        }
        String what = "seed " + seed + " run(" + k + ", " + a + ", " + b + ", " + fuel + ")";
        Check.same(what, got, due);
        List<Integer> ends = new ArrayList<>();
        for (int which = 0; which < 4; which++) {
            ends.add(kit.framer.end(which));
        }
        Check.same(what + " end", ends, List.of(model.ended, model.used, model.thrownClass, model.made));
        see(due.equals("argument") || due.equals("state") ? due : "end " + model.ended);
    }
}
