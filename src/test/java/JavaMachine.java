import java.util.ArrayList;
import java.util.List;
import java.util.Map;
import java.util.TreeMap;

/**
 * The methods of a MapFramer as classes of the Java machine itself. Class 0 is Object, class 1 RuntimeException (so
 * that what the Java machine throws is of it), static fields are those of Statics, each method is in its own class.
 * Each instruction is told to Meter; operands of fields, classes and methods are longer there, so places differ.
 */
final class JavaMachine extends ClassLoader {
    private static final String STATICS = "made/Statics";
    /** With no frames: the Java machine finds the types by flow. */
    private static final int BY_FLOW = 49;
    private static final int BY_FRAMES = 61;

    private final Chance told;
    private final MapFramer framer;
    private final boolean hasFrames;
    private ClassFile file;
    private int[] code;
    private int[] offsets;
    private final List<Integer> caughtAt = new ArrayList<>();

    /** With frames: the code, handlers and frames as they are behind verify(); without: the code as it was told. */
    JavaMachine(Chance told, boolean hasFrames) {
        super(JavaMachine.class.getClassLoader());
        this.told = told;
        this.framer = told.kit.framer;
        this.hasFrames = hasFrames;
    }

    /** The class of a method, or what the Java machine's verifier says against it. */
    String verify(int method) {
        try {
            methodClass(method).getDeclaredMethods();
            return "none";
        } catch (VerifyError e) {
            return e.getMessage();
        }
    }

    Class<?> methodClass(int method) {
        return load("made.Method" + method);
    }

    Class<?> statics() {
        return load("made.Statics");
    }

    private Class<?> load(String name) {
        try {
            return Class.forName(name, true, this);
        } catch (ClassNotFoundException e) {
            throw new AssertionError(e);
        }
    }

    @Override
    protected Class<?> findClass(String name) throws ClassNotFoundException {
        file = new ClassFile();
        byte[] bytes;
        if (name.equals("made.Statics")) {
            addFields(-1);
            bytes = file.bytes(BY_FLOW, STATICS, "java/lang/Object");
        } else if (name.startsWith("made.Method")) {
            int method = Integer.parseInt(name.substring("made.Method".length()));
            addCode(method);
            bytes = file.bytes(hasFrames ? BY_FRAMES : BY_FLOW, "made/Method" + method, "java/lang/Object");
        } else if (name.startsWith("made.C")) {
            int c = Integer.parseInt(name.substring("made.C".length()));
            addFields(c);
            addConstructor(className(told.model.parents.get(c)));
            bytes = file.bytes(BY_FLOW, className(c), className(told.model.parents.get(c)));
        } else {
            throw new ClassNotFoundException(name);
        }
        return defineClass(name, bytes, 0, bytes.length);
    }

    static String className(int c) {
        return c == 0 ? "java/lang/Object" : c == 1 ? "java/lang/RuntimeException" : "made/C" + c;
    }

    private static String typeName(String type) {
        switch (type) {
            case "V":
            case "I":
            case "J":
                return type;
            case "AI":
                return "[I";
            case "AJ":
                return "[J";
            default:
                return (type.charAt(0) == 'A' ? "[L" : "L") + className(Model.classOf(type)) + ";";
        }
    }

    private String methodType(int method) {
        Model.Routine routine = told.model.routines.get(method);
        StringBuilder text = new StringBuilder("(");
        for (String type : routine.arguments) {
            text.append(typeName(type));
        }
        return text.append(')').append(typeName(routine.result)).toString();
    }

    /** The fields of a class' objects, or all static ones of -1. */
    private void addFields(int owner) {
        for (int k = 0; k < told.model.fields.size(); k++) {
            Model.Field field = told.model.fields.get(k);
            if (field.isStatic ? owner == -1 : owner == field.owner) {
                int access = ClassFile.PUBLIC | (field.isStatic ? ClassFile.STATIC : 0);
                file.addField(access, "f" + k, typeName(field.type));
            }
        }
    }

    private void addConstructor(String above) {
        ClassFile.Bytes body = new ClassFile.Bytes().two(1).two(1).four(5).one(42).one(183)
            .two(file.method(above, "<init>", "()V")).one(177);
        file.addMethod(ClassFile.PUBLIC, "<init>", "()V", body, new ClassFile.Bytes(), new ClassFile.Bytes(), 0);
    }

    private void addCode(int method) {
        Model.Routine routine = told.model.routines.get(method);
        code = routine.code.clone();
        for (int place = 0; place < code.length && hasFrames; place++) {
            code[place] = framer.codeAt(method, place);
        }
        List<Model.Trap> traps = hasFrames ? trapsNow(method) : routine.traps;
        caughtAt.clear();
        for (Model.Trap trap : traps) {
            caughtAt.add(trap.place);
        }
        findOffsets();
        ClassFile.Bytes all = new ClassFile.Bytes();
        for (int place = 0; place < code.length; place += Model.size(code[place])) {
            add(all, place);
        }
        // one more where what comes to a handler is shown to Meter
        ClassFile.Bytes body = new ClassFile.Bytes().two(hasFrames ? framer.about(method, 6) + 1 : routine.maxStack)
            .two(routine.maxLocals).four(all.size()).add(all);
        ClassFile.Bytes handlers = new ClassFile.Bytes();
        for (Model.Trap trap : traps) {
            handlers.two(offsets[trap.from]).two(offsets[trap.to]).two(offsets[trap.place])
                .two(file.cls(className(trap.caught)));
        }
        file.addMethod(ClassFile.PUBLIC | ClassFile.STATIC, "run", methodType(method), body, handlers,
            hasFrames ? frames(method) : new ClassFile.Bytes(), hasFrames ? framer.about(method, 8) : 0);
    }

    private List<Model.Trap> trapsNow(int method) {
        List<Model.Trap> traps = new ArrayList<>();
        for (int k = 0; k < framer.about(method, 5); k++) {
            traps.add(new Model.Trap(framer.handlerAt(method, k, 0), framer.handlerAt(method, k, 1),
                framer.handlerAt(method, k, 2), framer.handlerAt(method, k, 3)));
        }
        return traps;
    }

    private void findOffsets() {
        // what an instruction comes to does not depend on the offsets, but for what they are
        offsets = new int[code.length + 1];
        ClassFile.Bytes all = new ClassFile.Bytes();
        for (int place = 0; place < code.length; place += Model.size(code[place])) {
            offsets[place] = all.size();
            add(all, place);
        }
        offsets[code.length] = all.size();
    }

    private void call(ClassFile.Bytes all, String name, String type) {
        all.one(184).two(file.method("Meter", name, type));
    }

    private void add(ClassFile.Bytes all, int place) {
        int op = code[place];
        int i = place + 1 < code.length ? code[place + 1] : 0;
        int start = all.size();
        if (hasFrames && caughtAt.contains(place)) {
            all.one(89);
            call(all, "come", "(Ljava/lang/Object;)V");
        }
        call(all, "count", "()V");
        if (op == 187) {
            call(all, "make", "()V");
        } else if (op == 188 || op == 189) {
            call(all, "make", "(I)I");
        }
        if (Model.BRANCHES.contains(op)) {
            int to = place + (short) (i << 8 | code[place + 2]);
            int from = offsets[place] + all.size() - start;
            all.one(op).two(offsets[to] - from);
        } else if (op == 178 || op == 179) {
            all.one(op).two(file.field(STATICS, "f" + i, typeName(told.model.fields.get(i).type)));
        } else if (op == 180 || op == 181) {
            Model.Field field = told.model.fields.get(i);
            all.one(op).two(file.field(className(field.owner), "f" + i, typeName(field.type)));
        } else if (op == 183) {
            all.one(op).two(file.method(className(i), "<init>", "()V"));
        } else if (op == 184) {
            all.one(op).two(file.method("made/Method" + i, "run", methodType(i)));
        } else if (op == 187 || op == 189 || op == 192 || op == 193) {
            all.one(op).two(file.cls(className(i)));
        } else {
            for (int k = 0; k < Model.size(op); k++) {
                all.one(code[place + k]);
            }
        }
    }

    /** The frames that were written, read by the Java machine's rules, and all written again as full ones. */
    private ClassFile.Bytes frames(int method) {
        ClassFile.Bytes all = new ClassFile.Bytes();
        int offset = -1;
        for (Map.Entry<Integer, List<List<int[]>>> frame : FrameReader.read(told, method).entrySet()) {
            int next = offsets[frame.getKey()];
            all.one(255).two(next - offset - 1);
            offset = next;
            for (List<int[]> types : frame.getValue()) {
                all.two(types.size());
                for (int[] type : types) {
                    addType(all, type);
                }
            }
        }
        return all;
    }

    private void addType(ClassFile.Bytes all, int[] type) {
        all.one(type[0]);
        if (type[0] == 7) {
            String name = type[1] == 2 ? (type[2] == 3 ? "[I" : "[J") : className(type[2]);
            all.two(file.cls(type[1] == 1 ? "[L" + name + ";" : name));
        } else if (type[0] == 8) {
            // the calls of Meter stand ahead of the new
            int place = type[1] << 8 | type[2];
            all.two(offsets[place] + (caughtAt.contains(place) ? 10 : 6));
        }
    }

    /** Reads frames as the Java machine does: each from the one before, to locals and stack. */
    private static final class FrameReader {
        private final MapFramer framer;
        private final int method;
        private int at;

        private FrameReader(MapFramer framer, int method) {
            this.framer = framer;
            this.method = method;
        }

        static Map<Integer, List<List<int[]>>> read(Chance told, int method) {
            FrameReader reader = new FrameReader(told.kit.framer, method);
            Map<Integer, List<List<int[]>>> all = new TreeMap<>();
            List<int[]> locals = new ArrayList<>();
            for (String type : told.model.routines.get(method).arguments) {
                locals.add(typeOf(type));
            }
            int place = -1;
            while (reader.at < told.kit.framer.about(method, 4)) {
                List<int[]> stack = new ArrayList<>();
                locals = new ArrayList<>(locals);
                place += 1 + reader.readOne(locals, stack);
                all.put(place, List.of(locals, stack));
            }
            return all;
        }

        private static int[] typeOf(String type) {
            int number = Model.typeNumber(type);
            return number == 1 ? new int[] {1} : number == 2 ? new int[] {4} : number < 32 ? new int[] {7, 2, number}
                : new int[] {7, number / 64, number % 32};
        }

        private int readOne(List<int[]> locals, List<int[]> stack) {
            int kind = one();
            int distance = kind < 128 ? kind % 64 : two();
            if (kind >= 128 && kind < 247) {
                throw new AssertionError("no frame is of the kind " + kind);
            }
            if (kind >= 64 && kind <= 247) {
                addTypes(stack, 1);
            } else if (kind == 255) {
                locals.clear();
                addTypes(locals, two());
                addTypes(stack, two());
            } else if (kind > 251) {
                addTypes(locals, kind - 251);
            } else if (kind > 247) {
                locals.subList(locals.size() - (251 - kind), locals.size()).clear();
            }
            return distance;
        }

        private void addTypes(List<int[]> types, int count) {
            for (int k = 0; k < count; k++) {
                int[] type = new int[3];
                type[0] = one();
                if (type[0] >= 7) {
                    type[1] = one();
                    type[2] = one();
                }
                types.add(type);
            }
        }

        private int one() {
            at++;
            return framer.frameAt(method, at - 1);
        }

        private int two() {
            int high = one();
            return high << 8 | one();
        }
    }
}
