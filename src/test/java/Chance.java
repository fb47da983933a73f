import java.util.Arrays;
import java.util.List;
import java.util.Random;

/** Classes, fields, methods and code made by chance, told to a MapFramer and to a model. */
final class Chance {
    final Random random;
    final Kit kit = new Kit();
    final Model model = new Model();
    /** Whether all is left out in which the document goes other ways than the Java machine. */
    private final boolean isLikeJava;

    Chance(int seed, boolean isLikeJava) {
        random = new Random(seed);
        this.isLikeJava = isLikeJava;
    }

    /** Tells all of them, and answers how many methods there are; none is verified. */
    int tell() {
        int classes = random.nextInt(9);
        for (int k = 0; k < classes; k++) {
            addClass();
        }
        int fields = random.nextInt(8);
        for (int k = 0; k < fields; k++) {
            addField();
        }
        int methods = 1 + random.nextInt(5);
        for (int k = 0; k < methods; k++) {
            addMethod();
        }
        for (int k = 0; k < methods; k++) {
            addCode(k);
        }
        return methods;
    }

    private void addClass() {
        boolean isInterface = random.nextInt(4) == 0 && !isLikeJava;
        int parent = random.nextInt(model.parents.size());
        if (!isInterface && model.interfaces.get(parent)) {
            return;
        }
        kit.framer.cls(parent, isInterface);
        model.parents.add(isInterface ? 0 : parent);
        model.interfaces.add(isInterface);
    }

    private int type() {
        int k = random.nextInt(8);
        return k < 4 ? k + 1 : (k < 7 ? 32 : 64) + random.nextInt(model.parents.size());
    }

    private void addField() {
        Model.Field field = new Model.Field();
        int type = type();
        field.type = Model.typeName(type);
        field.owner = random.nextInt(model.parents.size());
        // RuntimeException, which is class 1 there, gets no fields
        boolean hasNone = field.owner <= (isLikeJava ? 1 : 0) || model.interfaces.get(field.owner);
        field.isStatic = hasNone || random.nextInt(3) == 0;
        kit.framer.field(field.owner, type, field.isStatic);
        model.fields.add(field);
    }

    private void addMethod() {
        Model.Routine routine = new Model.Routine();
        int count = random.nextInt(5);
        int[] types = new int[count];
        for (int k = 0; k < count; k++) {
            types[k] = random.nextInt(3) != 0 ? 1 + random.nextInt(2) : type();
            routine.arguments.add(Model.typeName(types[k]));
        }
        int result = random.nextInt(4) == 0 ? 0 : type();
        routine.result = Model.typeName(result);
        kit.framer.method(Kit.pack(types), result);
        model.routines.add(routine);
    }

    private void addCode(int k) {
        Model.Routine routine = model.routines.get(k);
        int words = 0;
        for (String type : routine.arguments) {
            words += type.equals("J") ? 2 : 1;
        }
        routine.maxLocals = words + random.nextInt(13 - words);
        routine.maxStack = random.nextInt(8) == 0 ? random.nextInt(13) : 3 + random.nextInt(10);
        Maker maker = new Maker(model, routine, random);
        int[] code = maker.make(1 + random.nextInt(100));
        code = Arrays.copyOf(code, Math.min(120, code.length));
        if (random.nextInt(4) == 0) {
            code[random.nextInt(code.length)] = random.nextInt(4) == 0 ? random.nextInt(256) : random.nextInt(11);
        }
        if (random.nextInt(8) == 0) {
            routine.maxStack = Math.max(0, routine.maxStack - 1 - random.nextInt(6));
        }
        if (random.nextInt(20) == 0) {
            routine.maxLocals = Math.max(words, routine.maxLocals - 1);
        }
        kit.code(k, routine.maxStack, routine.maxLocals, code);
        routine.code = code;
        addTraps(maker, code.length);
        for (Model.Trap trap : maker.traps) {
            if (trap.to <= 120 && trap.place <= 120) {
                kit.framer.handler(k, trap.from, trap.to, trap.place, trap.caught == 1 && random.nextBoolean()
                    ? MapFramer.NONE : trap.caught);
                routine.traps.add(trap);
            }
        }
    }

    /** More handlers: some of them anywhere, some wide ones, that dead rows may cut, to places that handlers have. */
    private void addTraps(Maker maker, int length) {
        boolean isWild = random.nextInt(15) == 0;
        boolean isWide = random.nextInt(3) == 0;
        while (maker.traps.size() < 6 && isWild && random.nextInt(3) != 0) {
            int from = random.nextInt(length);
            maker.traps.add(new Model.Trap(from, from + random.nextInt(10), random.nextInt(length), 1));
        }
        List<Integer> places = maker.places();
        while (maker.traps.size() < 6 && isWide && !maker.traps.isEmpty() && random.nextInt(6) != 0) {
            Model.Trap old = maker.traps.get(random.nextInt(maker.traps.size()));
            int from = places.get(random.nextInt(places.size()));
            maker.traps.add(new Model.Trap(Math.min(from, old.from), random.nextBoolean() ? length : old.to, old.place,
                old.caught));
        }
    }
}
