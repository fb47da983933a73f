import java.util.ArrayList;
import java.util.Arrays;

/**
 * Stack maps for methods of a small machine with the Java machine's instructions: types by flow,
 * dead code, frames in their shortest kinds, and running.
 */
public final class MapFramer {
    public static final int NONE = -1;

    private static final int MOST_ON_TAPE = 400;
    private static final int MOST_CODE = 120;
    private static final int MOST_STACK = 12;
    private static final int MOST_LOCALS = 12;
    private static final int MOST_HANDLERS_TOLD = 6;
    private static final int MOST_HANDLERS_LEFT = 12;
    private static final int MOST_FUEL = 20000;
    private static final int STACK_FROM = 100;

    private final World world;
    private final Machine machine;
    private final int[] tape;
    private int tapeLength;

    public MapFramer() {
        world = new World();
        machine = new Machine();
        tape = new int[MOST_ON_TAPE];
        tapeLength = 0;
    }

    public int cls(int parent, boolean isInterface) throws IllegalArgumentException, IllegalStateException {
        if (!isInterface && !world.isProperClass(parent)) {
            throw new IllegalArgumentException("no such class to be under");
        }
        if (world.classCount >= World.MOST_CLASSES) {
            throw new IllegalStateException("no more classes");
        }
        return world.addClass(isInterface ? 0 : parent, isInterface);
    }

    public int field(int cls, int type, boolean isStatic) throws IllegalArgumentException, IllegalStateException {
        if (!world.hasClass(cls) || !world.isValueType(type)) {
            throw new IllegalArgumentException("no such class or type");
        }
        if (!isStatic && (cls == 0 || !world.isProperClass(cls))) {
            throw new IllegalArgumentException("objects of this class have no fields");
        }
        if (world.fieldCount >= World.MOST_FIELDS) {
            throw new IllegalStateException("no more fields");
        }
        return world.addField(cls, type, isStatic);
    }

    public int method(int arguments, int result) throws IllegalArgumentException, IllegalStateException {
        int count = World.argumentCount(arguments);
        for (int k = 0; k < count; k++) {
            if (!world.isValueType(World.argumentType(arguments, k))) {
                throw new IllegalArgumentException("no such argument type");
            }
        }
        if (result != World.VOID && !world.isValueType(result)) {
            throw new IllegalArgumentException("no such result type");
        }
        if (world.methodCount >= World.MOST_METHODS) {
            throw new IllegalStateException("no more methods");
        }
        return world.addMethod(arguments, result);
    }

    public boolean feed(int bytes) {
        if (tapeLength + 4 > MOST_ON_TAPE) {
            return false;
        }
        for (int shift = 24; shift >= 0; shift -= 8) {
            tape[tapeLength] = (bytes >>> shift) & 255;
            tapeLength++;
        }
        return true;
    }

    public void code(int method, int n, int maxStack, int maxLocals)
            throws IllegalArgumentException, IllegalStateException {
        int fed = tapeLength;
        tapeLength = 0;
        Method told = world.methodAt(method);
        if (told == null || n < 1 || n > MOST_CODE || n > fed) {
            throw new IllegalArgumentException("no such method, or not so many bytes");
        }
        if (maxStack < 0 || maxStack > MOST_STACK || maxLocals > MOST_LOCALS || maxLocals < told.argumentWords()) {
            throw new IllegalArgumentException("no such stack or locals");
        }
        if (told.hasCode()) {
            throw new IllegalStateException("it has code");
        }
        told.code = Arrays.copyOf(tape, n);
        told.maxStack = maxStack;
        told.maxLocals = maxLocals;
    }

    public int handler(int method, int from, int to, int place, int cls)
            throws IllegalArgumentException, IllegalStateException {
        Method told = world.methodAt(method);
        int caught = cls == NONE ? World.THROWN : cls;
        if (told == null || !told.hasCode() || !world.hasClass(caught) || !world.subs(caught, World.THROWN)) {
            throw new IllegalArgumentException("no such method with code, or class");
        }
        if (!isInCode(from) || !isInCode(to) || !isInCode(place)) {
            throw new IllegalArgumentException("no such place");
        }
        if (told.verified || told.handlers.size() >= MOST_HANDLERS_TOLD) {
            throw new IllegalStateException("it was verified, or has all its handlers");
        }
        told.handlers.add(new Handler(from, to, place, caught));
        return told.handlers.size() - 1;
    }

    private static boolean isInCode(int place) {
        return place >= 0 && place <= MOST_CODE;
    }

    public int verify(int method)
            throws IllegalArgumentException, IllegalStateException, UnsupportedOperationException {
        Method told = world.methodAt(method);
        if (told == null || !told.hasCode()) {
            throw new IllegalArgumentException("no such method with code");
        }
        if (told.verified) {
            throw new IllegalStateException("it was verified");
        }
        told.verified = true;
        Verifier verifier = new Verifier(world, told);
        verifier.checkInstructions();
        verifier.checkBranches();
        verifier.checkHandlers();
        verifier.flow();
        verifier.putOutDeadCode();
        if (told.fault != 0) {
            throw new UnsupportedOperationException("a fault");
        }
        verifier.findCalled();
        verifier.writeFrames();
        return told.frameCount;
    }

    public int about(int method, int which) throws IndexOutOfBoundsException {
        Method asked = world.methodAt(method);
        if (asked == null || which < 0 || which > 8) {
            throw new IndexOutOfBoundsException("no such method, or nothing so numbered about it");
        }
        switch (which) {
            case 0:
                return asked.fault;
            case 1:
                return asked.faultAt;
            case 2:
                return asked.verified ? 1 : 0;
            case 3:
                return asked.code.length;
            case 4:
                return asked.frames.length;
            case 5:
                return asked.handlers.size();
            case 6:
                return asked.maxStack;
            case 7:
                return asked.maxLocals;
            default:
                return asked.frameCount;
        }
    }

    public int codeAt(int method, int k) throws IndexOutOfBoundsException {
        Method asked = world.methodAt(method);
        if (asked == null || k < 0 || k >= asked.code.length) {
            throw new IndexOutOfBoundsException("no such byte of code");
        }
        return asked.code[k];
    }

    public int frameAt(int method, int k) throws IndexOutOfBoundsException {
        Method asked = world.methodAt(method);
        if (asked == null || k < 0 || k >= asked.frames.length) {
            throw new IndexOutOfBoundsException("no such byte of frames");
        }
        return asked.frames[k];
    }

    public int handlerAt(int method, int k, int what) throws IndexOutOfBoundsException {
        Method asked = world.methodAt(method);
        if (asked == null || k < 0 || k >= asked.handlers.size() || what < 0 || what > 3) {
            throw new IndexOutOfBoundsException("no such handler, or nothing so numbered of it");
        }
        Handler handler = asked.handlers.get(k);
        switch (what) {
            case 0:
                return handler.from;
            case 1:
                return handler.to;
            case 2:
                return handler.place;
            default:
                return handler.caught;
        }
    }

    public int typeAt(int method, int place, int k) throws IndexOutOfBoundsException {
        Method asked = world.methodAt(method);
        State state = asked == null ? null : asked.stateAt(place);
        if (state == null || k < 0) {
            throw new IndexOutOfBoundsException("no state there");
        }
        if (k < state.locals.length) {
            return state.locals[k];
        }
        if (k < STACK_FROM || k - STACK_FROM >= state.size) {
            throw new IndexOutOfBoundsException("no such local, nor so many on the stack");
        }
        return state.stack[k - STACK_FROM];
    }

    public long run(int method, long a, long b, int fuel)
            throws IllegalArgumentException, IllegalStateException, UnsupportedOperationException {
        Method first = world.methodAt(method);
        if (first == null || !first.isSound() || first.takesReferences() || fuel < 1 || fuel > MOST_FUEL) {
            throw new IllegalArgumentException("no such method to run, or no such fuel");
        }
        if (!world.areAllSound(first.called)) {
            throw new IllegalStateException("a method that it calls can't be run");
        }
        machine.execute(world, first, a, b, fuel);
        if (machine.outcome != Machine.RETURNED) {
            throw new UnsupportedOperationException("it did not return");
        }
        return machine.answer();
    }

    public int end(int which) {
        if (machine.outcome == NONE) {
            return NONE;
        }
        switch (which) {
            case 0:
                return machine.outcome;
            case 1:
                return machine.used;
            case 2:
                return machine.thrownClass;
            case 3:
                return machine.heap.made;
            default:
                return NONE;
        }
    }

    public int count(int what) {
        switch (what) {
            case 0:
                return world.classCount;
            case 1:
                return world.fieldCount;
            case 2:
                return world.methodCount;
            case 3:
                return tapeLength;
            default:
                return NONE;
        }
    }

    /** The instructions by their first bytes. */
    private static final class Op {
        static final int PUSH_NULL = 1;
        static final int PUSH_MINUS_ONE = 2;
        static final int PUSH_ZERO = 3;
        static final int PUSH_LONG_ZERO = 9;
        static final int PUSH_LONG_ONE = 10;
        static final int PUSH_BYTE = 16;
        static final int PUSH_SHORT = 17;
        static final int LOAD_INT = 21;
        static final int LOAD_LONG = 22;
        static final int LOAD_REFERENCE = 25;
        static final int GET_INT = 46;
        static final int GET_LONG = 47;
        static final int GET_REFERENCE = 50;
        static final int STORE_INT = 54;
        static final int STORE_LONG = 55;
        static final int STORE_REFERENCE = 58;
        static final int PUT_INT = 79;
        static final int PUT_LONG = 80;
        static final int PUT_REFERENCE = 83;
        static final int POP = 87;
        static final int POP_TWO = 88;
        static final int DUP = 89;
        static final int DUP_UNDER = 90;
        static final int DUP_TWO = 92;
        static final int SWAP = 95;
        static final int ADD_INT = 96;
        static final int ADD_LONG = 97;
        static final int SUBTRACT_INT = 100;
        static final int SUBTRACT_LONG = 101;
        static final int MULTIPLY_INT = 104;
        static final int MULTIPLY_LONG = 105;
        static final int INCREASE = 132;
        static final int INT_TO_LONG = 133;
        static final int LONG_TO_INT = 136;
        static final int COMPARE_LONGS = 148;
        static final int IF_ZERO = 153;
        static final int IF_NOT_ABOVE_ZERO = 158;
        static final int IF_EQUAL = 159;
        static final int IF_NOT_ABOVE = 164;
        static final int IF_SAME = 165;
        static final int IF_NOT_SAME = 166;
        static final int BRANCH = 167;
        static final int RETURN_INT = 172;
        static final int RETURN_LONG = 173;
        static final int RETURN = 177;
        static final int GET_STATIC = 178;
        static final int PUT_STATIC = 179;
        static final int GET_FIELD = 180;
        static final int PUT_FIELD = 181;
        static final int BEGIN = 183;
        static final int CALL = 184;
        static final int NEW = 187;
        static final int NEW_NUMBERS = 188;
        static final int NEW_ARRAY = 189;
        static final int LENGTH = 190;
        static final int THROW = 191;
        static final int CAST = 192;
        static final int IS_OF = 193;
        static final int IF_NULL = 198;
        static final int IF_NOT_NULL = 199;
        static final int INT_KIND = 10;
        static final int LONG_KIND = 11;

        /** Bytes of each instruction, twenty in a row; 0 where there is none. */
        private static final byte[] LENGTHS = {
            1, 1, 1, 1, 1, 1, 1, 1, 1, 1, 1, 0, 0, 0, 0, 0, 2, 3, 0, 0,
            0, 2, 2, 0, 0, 2, 0, 0, 0, 0, 0, 0, 0, 0, 0, 0, 0, 0, 0, 0,
            0, 0, 0, 0, 0, 0, 1, 1, 0, 0, 1, 0, 0, 0, 2, 2, 0, 0, 2, 0,
            0, 0, 0, 0, 0, 0, 0, 0, 0, 0, 0, 0, 0, 0, 0, 0, 0, 0, 0, 1,
            1, 0, 0, 1, 0, 0, 0, 1, 1, 1, 1, 0, 1, 0, 0, 1, 1, 1, 0, 0,
            1, 1, 0, 0, 1, 1, 0, 0, 1, 1, 0, 0, 0, 0, 0, 0, 0, 0, 0, 0,
            0, 0, 0, 0, 0, 0, 0, 0, 0, 0, 0, 0, 3, 1, 0, 0, 1, 0, 0, 0,
            0, 0, 0, 0, 0, 0, 0, 0, 1, 0, 0, 0, 0, 3, 3, 3, 3, 3, 3, 3,
            3, 3, 3, 3, 3, 3, 3, 3, 0, 0, 0, 0, 1, 1, 0, 0, 1, 1, 2, 2,
            2, 2, 0, 2, 2, 0, 0, 2, 2, 2, 1, 1, 2, 2, 0, 0, 0, 0, 3, 3
        };

        static int length(int op) {
            return op >= 0 && op < LENGTHS.length ? LENGTHS[op] : 0;
        }

        static boolean isBranch(int op) {
            return op >= IF_ZERO && op <= BRANCH || op == IF_NULL || op == IF_NOT_NULL;
        }

        static boolean endsFlow(int op) {
            return op >= BRANCH && op <= RETURN || op == THROW;
        }

        static boolean isGet(int op) {
            return op >= GET_INT && op <= GET_REFERENCE;
        }

        static boolean isStore(int op) {
            return op == STORE_INT || op == STORE_LONG || op == STORE_REFERENCE;
        }
    }

    /** All that was told of classes, fields and methods, and how types stand to one another. */
    private static final class World {
        static final int MOST_CLASSES = 16;
        static final int MOST_FIELDS = 16;
        static final int MOST_METHODS = 8;
        static final int MOST_ARGUMENTS = 4;
        static final int THROWN = 1;
        static final int VOID = 0;
        static final int TOP = 0;
        static final int INT = 1;
        static final int LONG = 2;
        static final int INT_ARRAY = 3;
        static final int LONG_ARRAY = 4;
        static final int NULL = 5;
        static final int OBJECT = 32;
        static final int ARRAY = 64;
        static final int UNINITIALIZED = 1000;

        final int[] parents = new int[MOST_CLASSES];
        /** Of each class, the bits of all that it SUBs. */
        final int[] supers = new int[MOST_CLASSES];
        final boolean[] interfaces = new boolean[MOST_CLASSES];
        int classCount;
        final int[] fieldClasses = new int[MOST_FIELDS];
        final int[] fieldTypes = new int[MOST_FIELDS];
        final boolean[] fieldStatics = new boolean[MOST_FIELDS];
        int fieldCount;
        final Method[] methods = new Method[MOST_METHODS];
        int methodCount;

        World() {
            parents[0] = NONE;
            supers[0] = 1;
            parents[THROWN] = 0;
            supers[THROWN] = 3;
            classCount = 2;
        }

        int addClass(int parent, boolean isInterface) {
            parents[classCount] = parent;
            supers[classCount] = supers[parent] | 1 << classCount;
            interfaces[classCount] = isInterface;
            classCount++;
            return classCount - 1;
        }

        int addField(int owner, int type, boolean isStatic) {
            fieldClasses[fieldCount] = owner;
            fieldTypes[fieldCount] = type;
            fieldStatics[fieldCount] = isStatic;
            fieldCount++;
            return fieldCount - 1;
        }

        int addMethod(int packed, int result) {
            int[] types = new int[argumentCount(packed)];
            for (int k = 0; k < types.length; k++) {
                types[k] = argumentType(packed, k);
            }
            methods[methodCount] = new Method(types, result);
            methodCount++;
            return methodCount - 1;
        }

        static int argumentType(int packed, int k) {
            return (packed >>> 8 * k) & 255;
        }

        static int argumentCount(int packed) {
            int count = 0;
            while (count < MOST_ARGUMENTS && argumentType(packed, count) != VOID) {
                count++;
            }
            return count;
        }

        Method methodAt(int k) {
            return k >= 0 && k < methodCount ? methods[k] : null;
        }

        boolean hasClass(int c) {
            return c >= 0 && c < classCount;
        }

        boolean isProperClass(int c) {
            return hasClass(c) && !interfaces[c];
        }

        boolean hasField(int k, boolean isStatic) {
            return k >= 0 && k < fieldCount && fieldStatics[k] == isStatic;
        }

        boolean isValueType(int type) {
            return type >= INT && type <= LONG_ARRAY || hasClass(type - OBJECT) || hasClass(type - ARRAY);
        }

        static boolean isObject(int type) {
            return type >= OBJECT && type < OBJECT + MOST_CLASSES;
        }

        static boolean isClassArray(int type) {
            return type >= ARRAY && type < ARRAY + MOST_CLASSES;
        }

        static boolean isArray(int type) {
            return type == INT_ARRAY || type == LONG_ARRAY || type >= ARRAY && type < ARRAY + MOST_CLASSES;
        }

        static boolean isReference(int type) {
            return type >= INT_ARRAY && type < ARRAY + MOST_CLASSES;
        }

        static boolean isUninitialized(int type) {
            return type >= UNINITIALIZED;
        }

        static int width(int type) {
            return type == LONG ? 2 : 1;
        }

        int fieldType(int k) {
            return k >= 0 && k < fieldCount ? fieldTypes[k] : VOID;
        }

        int fieldOwner(int k) {
            return k >= 0 && k < fieldCount ? fieldClasses[k] : 0;
        }

        boolean subs(int c, int d) {
            return c >= 0 && c < MOST_CLASSES && (supers[c] >>> d & 1) == 1;
        }

        boolean assignable(int from, int to) {
            if (to == TOP || from == to) {
                return true;
            }
            if (!isReference(from) || !isReference(to)) {
                return false;
            }
            if (from == NULL) {
                return true;
            }
            boolean areArrays = isClassArray(from) && isClassArray(to);
            if (!areArrays && !isObject(to)) {
                return false;
            }
            int base = areArrays ? ARRAY : OBJECT;
            if (to == base || interfaces[to - base]) {
                return true;
            }
            return (areArrays || isObject(from)) && subs(from - base, to - base);
        }

        int merge(int a, int b) {
            if (a == b) {
                return a;
            }
            if (!isReference(a) || !isReference(b)) {
                return TOP;
            }
            if (a == NULL || b == NULL) {
                return a == NULL ? b : a;
            }
            boolean areArrays = isClassArray(a) && isClassArray(b);
            if (!areArrays && !(isObject(a) && isObject(b))) {
                return OBJECT;
            }
            int base = areArrays ? ARRAY : OBJECT;
            int c = a - base;
            for (int k = 0; k < MOST_CLASSES && c > 0 && !subs(b - base, c); k++) {
                c = parents[c];
            }
            return base + c;
        }

        /** Whether the methods of these bits, and all that they call, may be run. */
        boolean areAllSound(int bits) {
            int reached = bits;
            for (int round = 0; round < MOST_METHODS; round++) {
                for (int k = 0; k < methodCount; k++) {
                    if ((reached >>> k & 1) == 1) {
                        if (!methods[k].isSound()) {
                            return false;
                        }
                        reached |= methods[k].called;
                    }
                }
            }
            return true;
        }
    }

    private static final class Handler {
        final int from;
        final int to;
        final int place;
        final int caught;

        Handler(int from, int to, int place, int caught) {
            this.from = from;
            this.to = to;
            this.place = place;
            this.caught = caught;
        }

        boolean covers(int at) {
            return from <= at && at < to;
        }

        /** Takes a row of places out of handlers; backwards, so that one more does not shift what is to come. */
        static void cut(ArrayList<Handler> handlers, int start, int end) {
            for (int k = handlers.size() - 1; k >= 0; k--) {
                Handler whole = handlers.get(k);
                if (whole.to <= start || end <= whole.from) {
                    continue;
                }
                handlers.remove(k);
                if (end < whole.to) {
                    handlers.add(k, new Handler(end, whole.to, whole.place, whole.caught));
                }
                if (whole.from < start) {
                    handlers.add(k, new Handler(whole.from, start, whole.place, whole.caught));
                }
            }
        }
    }

    private static final class Method {
        final int[] arguments;
        final int result;
        int[] code = new int[0];
        int maxStack;
        int maxLocals;
        ArrayList<Handler> handlers = new ArrayList<>();
        boolean verified;
        int fault;
        int faultAt = NONE;
        /** The states ahead of instructions, once it is known that there is no fault. */
        State[] states = new State[0];
        int[] frames = new int[0];
        int frameCount;
        /** The bits of the methods that its code calls. */
        int called;

        Method(int[] arguments, int result) {
            this.arguments = arguments;
            this.result = result;
        }

        boolean hasCode() {
            return code.length > 0;
        }

        boolean isSound() {
            return verified && fault == 0;
        }

        int argumentWords() {
            int words = 0;
            for (int type : arguments) {
                words += World.width(type);
            }
            return words;
        }

        boolean takesReferences() {
            for (int type : arguments) {
                if (World.isReference(type)) {
                    return true;
                }
            }
            return false;
        }

        State stateAt(int place) {
            return place >= 0 && place < states.length ? states[place] : null;
        }

        /** A byte of code, and 0 behind the end: no place is used that was not looked at. */
        int byteAt(int place) {
            return place >= 0 && place < code.length ? code[place] : 0;
        }

        int signedByteAt(int place) {
            return (byte) byteAt(place);
        }

        int signedPairAt(int place) {
            return (short) (byteAt(place) << 8 | byteAt(place + 1));
        }

        int branchPlace(int place) {
            return place + signedPairAt(place + 1);
        }

        void fail(int number, int at) {
            if (fault == 0) {
                fault = number;
                faultAt = at;
            }
        }
    }

    /** The types of the locals and of what is on the stack, ahead of or behind an instruction. */
    private static final class State {
        final int[] locals;
        final int[] stack;
        int size;
        /** What the stack counts of MAXSTACK. */
        int words;

        State(int maxLocals, int maxStack) {
            locals = new int[maxLocals];
            stack = new int[maxStack];
        }

        void copy(State other) {
            copyLocals(other);
            System.arraycopy(other.stack, 0, stack, 0, Math.min(other.stack.length, stack.length));
            size = other.size;
            words = other.words;
        }

        void copyLocals(State other) {
            System.arraycopy(other.locals, 0, locals, 0, Math.min(other.locals.length, locals.length));
        }

        void empty() {
            size = 0;
            words = 0;
        }

        boolean push(int type) {
            int width = type == World.LONG ? 2 : 1;
            if (words + width > stack.length) {
                return false;
            }
            stack[size] = type;
            size++;
            words += width;
            return true;
        }

        /** What was on top, or TOP, which is never on a stack, where there is nothing. */
        int pop() {
            if (size == 0) {
                return World.TOP;
            }
            size--;
            words -= stack[size] == World.LONG ? 2 : 1;
            return stack[size];
        }

        int localAt(int k) {
            return k >= 0 && k < locals.length ? locals[k] : World.TOP;
        }

        void setLocal(int k, int type) {
            if (k < 0 || k + World.width(type) > locals.length) {
                return;
            }
            if (k > 0 && locals[k - 1] == World.LONG) {
                locals[k - 1] = World.TOP;
            }
            locals[k] = type;
            if (type == World.LONG) {
                locals[k + 1] = World.TOP;
            }
        }

        void replaceLocals(int old, int type) {
            for (int k = 0; k < locals.length; k++) {
                if (locals[k] == old) {
                    locals[k] = type;
                }
            }
        }

        void replaceStack(int old, int type) {
            for (int k = 0; k < size; k++) {
                if (stack[k] == old) {
                    stack[k] = type;
                }
            }
        }

        boolean hasOnStack(int type) {
            for (int k = 0; k < size; k++) {
                if (stack[k] == type) {
                    return true;
                }
            }
            return false;
        }

        boolean fits(World world, State other) {
            if (size != other.size) {
                return false;
            }
            for (int k = 0; k < size; k++) {
                if (world.merge(stack[k], other.stack[k]) == World.TOP) {
                    return false;
                }
            }
            return true;
        }

        /** Merges another one, that fits, into this one; whether that changes it. */
        boolean merge(World world, State other) {
            boolean changed = false;
            for (int k = 0; k < locals.length && k < other.locals.length; k++) {
                int merged = world.merge(locals[k], other.locals[k]);
                changed = changed || merged != locals[k];
                locals[k] = merged;
            }
            for (int k = 0; k < size && k < other.size; k++) {
                int merged = world.merge(stack[k], other.stack[k]);
                changed = changed || merged != stack[k];
                stack[k] = merged;
            }
            return changed;
        }
    }

    /**
     * What an instruction does to a state. It goes on behind a fault, with no harm: only the first fault
     * counts, and the state is not used then.
     */
    private static final class Stepper {
        private static final int WRONG_VALUE = 6;
        private static final int STACK_FULL = 7;
        private static final int BEHIND_END = 8;

        private final World world;
        private final Method method;
        private State state;
        private int place;
        private int fault;

        Stepper(World world, Method method) {
            this.world = world;
            this.method = method;
        }

        /** Makes the state ahead of the instruction at a place the one behind it; answers the fault, or 0. */
        int step(State changed, int at) {
            state = changed;
            place = at;
            fault = 0;
            int op = method.byteAt(at);
            if (op <= Op.PUSH_SHORT) {
                pushConstant(op);
            } else if (Op.isGet(op)) {
                getElement(op);
            } else if (op <= Op.STORE_REFERENCE) {
                useLocal(op);
            } else if (op <= Op.PUT_REFERENCE) {
                putElement(op);
            } else if (op <= Op.SWAP) {
                moveOnStack(op);
            } else if (op <= Op.COMPARE_LONGS) {
                reckon(op);
            } else if (Op.isBranch(op)) {
                popCondition(op);
            } else if (op <= Op.RETURN) {
                popResult(op);
            } else if (op <= Op.PUT_FIELD) {
                useField(op);
            } else if (op == Op.CALL) {
                callMethod();
            } else {
                useObject(op);
            }
            if (!Op.endsFlow(op) && at + Op.length(op) >= method.code.length) {
                fail(BEHIND_END);
            }
            return fault;
        }

        private void fail(int number) {
            if (fault == 0) {
                fault = number;
            }
        }

        private int operand() {
            return method.byteAt(place + 1);
        }

        private void push(int type) {
            if (!state.push(type)) {
                fail(STACK_FULL);
            }
        }

        private int pop() {
            int type = state.pop();
            if (type == World.TOP) {
                fail(WRONG_VALUE);
            }
            return type;
        }

        private int popSingle() {
            int type = state.pop();
            if (type == World.TOP || type == World.LONG) {
                fail(WRONG_VALUE);
            }
            return type;
        }

        private int popReference() {
            int type = state.pop();
            if (!World.isReference(type)) {
                fail(WRONG_VALUE);
            }
            return type;
        }

        private void popAs(int wanted) {
            // TOP, of an empty stack, is assignable to nothing that is wanted
            if (!world.assignable(state.pop(), wanted)) {
                fail(WRONG_VALUE);
            }
        }

        private void pushConstant(int op) {
            if (op == Op.PUSH_NULL) {
                push(World.NULL);
            } else if (op == Op.PUSH_LONG_ZERO || op == Op.PUSH_LONG_ONE) {
                push(World.LONG);
            } else if (op >= Op.PUSH_MINUS_ONE) {
                push(World.INT);
            }
        }

        private void useLocal(int op) {
            switch (op) {
                case Op.LOAD_INT:
                    wantLocal(World.INT);
                    push(World.INT);
                    break;
                case Op.LOAD_LONG:
                    wantLocal(World.LONG);
                    push(World.LONG);
                    break;
                case Op.LOAD_REFERENCE:
                    loadReference();
                    break;
                case Op.STORE_INT:
                    popAs(World.INT);
                    state.setLocal(operand(), World.INT);
                    break;
                case Op.STORE_LONG:
                    popAs(World.LONG);
                    state.setLocal(operand(), World.LONG);
                    break;
                default:
                    storeReference();
                    break;
            }
        }

        private void wantLocal(int type) {
            if (state.localAt(operand()) != type) {
                fail(WRONG_VALUE);
            }
        }

        private void loadReference() {
            int type = state.localAt(operand());
            wantReferenceOrUninitialized(type);
            push(type);
        }

        private void storeReference() {
            int type = pop();
            wantReferenceOrUninitialized(type);
            state.setLocal(operand(), type);
        }

        private void wantReferenceOrUninitialized(int type) {
            if (!World.isReference(type) && !World.isUninitialized(type)) {
                fail(WRONG_VALUE);
            }
        }

        private void getElement(int op) {
            popAs(World.INT);
            if (op == Op.GET_INT) {
                popAs(World.INT_ARRAY);
                push(World.INT);
            } else if (op == Op.GET_LONG) {
                popAs(World.LONG_ARRAY);
                push(World.LONG);
            } else {
                int array = popClassArray();
                push(array == World.NULL ? World.NULL : array - World.ARRAY + World.OBJECT);
            }
        }

        private int popClassArray() {
            int type = state.pop();
            if (type != World.NULL && !World.isClassArray(type)) {
                fail(WRONG_VALUE);
            }
            return type;
        }

        private void putElement(int op) {
            if (op == Op.PUT_REFERENCE) {
                popReference();
                popAs(World.INT);
                popClassArray();
                return;
            }
            popAs(op == Op.PUT_INT ? World.INT : World.LONG);
            popAs(World.INT);
            popAs(op == Op.PUT_INT ? World.INT_ARRAY : World.LONG_ARRAY);
        }

        private void moveOnStack(int op) {
            switch (op) {
                case Op.POP:
                    popSingle();
                    break;
                case Op.POP_TWO:
                    if (pop() != World.LONG) {
                        popSingle();
                    }
                    break;
                case Op.DUP:
                    int one = popSingle();
                    push(one);
                    push(one);
                    break;
                case Op.DUP_TWO:
                    dupTwo();
                    break;
                default:
                    int upper = popSingle();
                    int lower = popSingle();
                    push(upper);
                    push(lower);
                    if (op == Op.DUP_UNDER) {
                        push(upper);
                    }
                    break;
            }
        }

        private void dupTwo() {
            int upper = pop();
            if (upper == World.LONG) {
                push(upper);
                push(upper);
                return;
            }
            int lower = popSingle();
            push(lower);
            push(upper);
            push(lower);
            push(upper);
        }

        private void reckon(int op) {
            switch (op) {
                case Op.INCREASE:
                    wantLocal(World.INT);
                    break;
                case Op.INT_TO_LONG:
                    popAs(World.INT);
                    push(World.LONG);
                    break;
                case Op.LONG_TO_INT:
                    popAs(World.LONG);
                    push(World.INT);
                    break;
                case Op.COMPARE_LONGS:
                    popAs(World.LONG);
                    popAs(World.LONG);
                    push(World.INT);
                    break;
                default:
                    // the instructions that are left: the even ones take INTs, the odd ones LONGs
                    int type = (op & 1) == 0 ? World.INT : World.LONG;
                    popAs(type);
                    popAs(type);
                    push(type);
                    break;
            }
        }

        private void popCondition(int op) {
            if (op <= Op.IF_NOT_ABOVE) {
                popAs(World.INT);
                if (op >= Op.IF_EQUAL) {
                    popAs(World.INT);
                }
            } else if (op != Op.BRANCH) {
                popReference();
                if (op <= Op.IF_NOT_SAME) {
                    popReference();
                }
            }
        }

        private void popResult(int op) {
            if (op == Op.RETURN) {
                if (method.result != World.VOID) {
                    fail(WRONG_VALUE);
                }
                return;
            }
            int type = pop();
            boolean isOfKind = op == Op.RETURN_INT ? type == World.INT
                : op == Op.RETURN_LONG ? type == World.LONG : World.isReference(type);
            // VOID has TOP's number, to which all is assignable
            if (!isOfKind || method.result == World.VOID || !world.assignable(type, method.result)) {
                fail(WRONG_VALUE);
            }
        }

        private void useField(int op) {
            int type = world.fieldType(operand());
            if (op == Op.PUT_STATIC || op == Op.PUT_FIELD) {
                popAs(type);
            }
            if (op == Op.GET_FIELD || op == Op.PUT_FIELD) {
                popAs(World.OBJECT + world.fieldOwner(operand()));
            }
            if (op == Op.GET_STATIC || op == Op.GET_FIELD) {
                push(type);
            }
        }

        private void callMethod() {
            Method callee = world.methodAt(operand());
            if (callee == null) {
                return;
            }
            for (int k = callee.arguments.length - 1; k >= 0; k--) {
                popAs(callee.arguments[k]);
            }
            if (callee.result != World.VOID) {
                push(callee.result);
            }
        }

        private void beginObject() {
            int type = pop();
            if (!World.isUninitialized(type)
                    || method.byteAt(type - World.UNINITIALIZED + 1) != operand()) {
                fail(WRONG_VALUE);
                return;
            }
            state.replaceLocals(type, World.OBJECT + operand());
            state.replaceStack(type, World.OBJECT + operand());
        }

        private void useObject(int op) {
            switch (op) {
                case Op.BEGIN:
                    beginObject();
                    break;
                case Op.NEW:
                    newObject();
                    break;
                case Op.NEW_NUMBERS:
                    popAs(World.INT);
                    push(operand() == Op.INT_KIND ? World.INT_ARRAY : World.LONG_ARRAY);
                    break;
                case Op.NEW_ARRAY:
                    popAs(World.INT);
                    push(World.ARRAY + operand());
                    break;
                case Op.LENGTH:
                    popArray();
                    push(World.INT);
                    break;
                case Op.THROW:
                    popAs(World.OBJECT + World.THROWN);
                    break;
                case Op.CAST:
                    popReference();
                    push(World.OBJECT + operand());
                    break;
                default:
                    popReference();
                    push(World.INT);
                    break;
            }
        }

        private void newObject() {
            int type = World.UNINITIALIZED + place;
            if (state.hasOnStack(type)) {
                fail(WRONG_VALUE);
            }
            state.replaceLocals(type, World.TOP);
            push(type);
        }

        private void popArray() {
            int type = state.pop();
            if (type != World.NULL && !World.isArray(type)) {
                fail(WRONG_VALUE);
            }
        }
    }

    /** Finds a method's first fault; without one, takes its dead code out and writes its frames. */
    private static final class Verifier {
        private static final int NO_INSTRUCTION = 1;
        private static final int NO_LOCAL = 2;
        private static final int NO_MEMBER = 3;
        private static final int NO_BRANCH_PLACE = 4;
        private static final int BAD_HANDLER = 5;
        private static final int STACK_FULL = 7;
        private static final int NO_MERGE = 9;
        private static final int MANY_HANDLERS = 10;
        /** Far above what it can take: places, times their types, times the changes of a type. */
        private static final int MOST_LOOKS = 1000000;

        private final World world;
        private final Method method;
        private final Stepper stepper;
        private final boolean[] begins;
        private final boolean[] waiting;
        /** No place below this one is to be looked at. */
        private int leastWaiting;
        private final State[] states;
        private final State ahead;
        private final State behind;
        private final State caught;

        Verifier(World world, Method method) {
            this.world = world;
            this.method = method;
            stepper = new Stepper(world, method);
            begins = new boolean[method.code.length];
            waiting = new boolean[method.code.length];
            states = new State[method.code.length];
            ahead = new State(method.maxLocals, method.maxStack);
            behind = new State(method.maxLocals, method.maxStack);
            caught = new State(method.maxLocals, method.maxStack);
        }

        void checkInstructions() {
            int place = 0;
            while (place < method.code.length && method.fault == 0) {
                int length = Op.length(method.code[place]);
                if (length == 0 || place + length > method.code.length) {
                    method.fail(NO_INSTRUCTION, place);
                    return;
                }
                begins[place] = true;
                checkOperand(method.code[place], method.byteAt(place + 1), place);
                place += length;
            }
        }

        private void checkOperand(int op, int operand, int place) {
            if (operand + localsUsed(op) > method.maxLocals && localsUsed(op) > 0) {
                method.fail(NO_LOCAL, place);
            }
            if (!hasMember(op, operand)) {
                method.fail(NO_MEMBER, place);
            }
        }

        private static int localsUsed(int op) {
            switch (op) {
                case Op.LOAD_INT:
                case Op.LOAD_REFERENCE:
                case Op.STORE_INT:
                case Op.STORE_REFERENCE:
                case Op.INCREASE:
                    return 1;
                case Op.LOAD_LONG:
                case Op.STORE_LONG:
                    return 2;
                default:
                    return 0;
            }
        }

        private boolean hasMember(int op, int operand) {
            switch (op) {
                case Op.GET_STATIC:
                case Op.PUT_STATIC:
                    return world.hasField(operand, true);
                case Op.GET_FIELD:
                case Op.PUT_FIELD:
                    return world.hasField(operand, false);
                case Op.CALL:
                    Method callee = world.methodAt(operand);
                    return callee != null && callee.hasCode();
                case Op.NEW:
                case Op.BEGIN:
                    return world.isProperClass(operand);
                case Op.NEW_NUMBERS:
                    return operand == Op.INT_KIND || operand == Op.LONG_KIND;
                case Op.NEW_ARRAY:
                case Op.CAST:
                case Op.IS_OF:
                    return world.hasClass(operand);
                default:
                    return true;
            }
        }

        void checkBranches() {
            for (int place = 0; place < begins.length && method.fault == 0; place++) {
                if (begins[place] && Op.isBranch(method.code[place]) && !isBeginning(method.branchPlace(place))) {
                    method.fail(NO_BRANCH_PLACE, place);
                }
            }
        }

        private boolean isBeginning(int place) {
            return place >= 0 && place < begins.length && begins[place];
        }

        void checkHandlers() {
            for (int k = 0; k < method.handlers.size() && method.fault == 0; k++) {
                Handler handler = method.handlers.get(k);
                boolean endsWell = handler.to == method.code.length || isBeginning(handler.to);
                if (handler.from >= handler.to || !endsWell
                        || !isBeginning(handler.from) || !isBeginning(handler.place)) {
                    method.fail(BAD_HANDLER, k);
                }
            }
        }

        void flow() {
            if (method.fault != 0) {
                return;
            }
            int local = 0;
            for (int type : method.arguments) {
                behind.setLocal(local, type);
                local += World.width(type);
            }
            give(0, behind);
            for (int looks = 0; looks < MOST_LOOKS && method.fault == 0; looks++) {
                while (leastWaiting < waiting.length && !waiting[leastWaiting]) {
                    leastWaiting++;
                }
                if (leastWaiting >= waiting.length) {
                    return;
                }
                waiting[leastWaiting] = false;
                look(leastWaiting);
            }
        }

        private void look(int place) {
            if (states[place] == null) {
                return;
            }
            // a copy: what a handler gets may change the state at this very place
            ahead.copy(states[place]);
            behind.copy(ahead);
            int fault = stepper.step(behind, place);
            if (fault != 0) {
                method.fail(fault, place);
                return;
            }
            int op = method.code[place];
            for (int k = 0; k < method.handlers.size(); k++) {
                Handler handler = method.handlers.get(k);
                if (handler.covers(place)) {
                    giveHandler(handler, ahead, place);
                    if (Op.isStore(op)) {
                        giveHandler(handler, behind, place);
                    }
                }
            }
            if (!Op.endsFlow(op)) {
                give(place + Op.length(op), behind);
            }
            if (Op.isBranch(op)) {
                give(method.branchPlace(place), behind);
            }
        }

        private void giveHandler(Handler handler, State from, int place) {
            caught.copyLocals(from);
            caught.empty();
            if (caught.push(World.OBJECT + handler.caught)) {
                give(handler.place, caught);
            } else {
                method.fail(STACK_FULL, place);
            }
        }

        private void give(int place, State given) {
            if (method.fault != 0 || place < 0 || place >= states.length) {
                return;
            }
            if (states[place] == null) {
                states[place] = new State(method.maxLocals, method.maxStack);
                states[place].copy(given);
                await(place);
            } else if (!states[place].fits(world, given)) {
                method.fail(NO_MERGE, place);
            } else if (states[place].merge(world, given)) {
                await(place);
            }
        }

        private void await(int place) {
            waiting[place] = true;
            leastWaiting = Math.min(leastWaiting, place);
        }

        void putOutDeadCode() {
            if (method.fault != 0) {
                return;
            }
            ArrayList<Handler> left = handlersLeft();
            if (method.fault != 0) {
                return;
            }
            method.handlers = left;
            int start = nextRow(0);
            for (int row = 0; row < begins.length && start < begins.length; row++) {
                int end = rowEnd(start);
                Arrays.fill(method.code, start, end - 1, 0);
                method.code[end - 1] = Op.THROW;
                method.maxStack = Math.max(method.maxStack, 1);
                start = nextRow(end);
            }
            method.states = states;
        }

        /** The handlers without the dead rows; all rows, before any code is changed, so that a fault changes none. */
        private ArrayList<Handler> handlersLeft() {
            ArrayList<Handler> left = new ArrayList<>();
            for (int k = 0; k < method.handlers.size(); k++) {
                left.add(method.handlers.get(k));
            }
            int start = nextRow(0);
            for (int row = 0; row < begins.length && start < begins.length; row++) {
                int end = rowEnd(start);
                Handler.cut(left, start, end);
                if (left.size() > MOST_HANDLERS_LEFT) {
                    method.fail(MANY_HANDLERS, start);
                    return left;
                }
                start = nextRow(end);
            }
            return left;
        }

        private int nextRow(int from) {
            int place = from;
            while (place < begins.length && !(begins[place] && states[place] == null)) {
                place++;
            }
            return place;
        }

        private int rowEnd(int start) {
            int place = start + 1;
            while (place < begins.length && states[place] == null) {
                place++;
            }
            return place;
        }

        void findCalled() {
            for (int place = 0; place < begins.length; place++) {
                if (states[place] != null && method.code[place] == Op.CALL) {
                    method.called |= 1 << method.byteAt(place + 1);
                }
            }
        }

        void writeFrames() {
            boolean[] framed = new boolean[method.code.length];
            for (int place = 0; place < framed.length; place++) {
                if (begins[place]) {
                    markBehind(framed, place);
                }
            }
            for (int k = 0; k < method.handlers.size(); k++) {
                mark(framed, method.handlers.get(k).place);
            }
            FrameWriter writer = new FrameWriter(method);
            for (int place = 0; place < framed.length; place++) {
                if (framed[place]) {
                    writer.write(place, states[place]);
                    method.frameCount++;
                }
            }
            method.frames = writer.written();
        }

        /** Marks where the code can't go without a frame; a dead row always begins behind what does not go on. */
        private void markBehind(boolean[] framed, int place) {
            int op = method.code[place];
            if (Op.isBranch(op)) {
                mark(framed, method.branchPlace(place));
            }
            if (Op.endsFlow(op)) {
                mark(framed, place + Op.length(op));
            }
        }

        private static void mark(boolean[] framed, int place) {
            if (place >= 0 && place < framed.length) {
                framed[place] = true;
            }
        }
    }

    /** Writes frames one behind the other, each in its shortest kind. */
    private static final class FrameWriter {
        private static final int SHORT = 64;
        private static final int SAME_AND_ONE = 64;
        private static final int SAME_AND_ONE_FAR = 247;
        private static final int SAME_FAR = 251;
        private static final int FULL = 255;
        private static final int MOST_CHANGED = 3;

        private int[] bytes = new int[32];
        private int length;
        private int placeBefore = -1;
        private int[] before = new int[MOST_LOCALS];
        private int beforeCount;
        private int[] locals = new int[MOST_LOCALS];
        private int localCount;
        private final int[] stack = new int[MOST_STACK];
        private int stackCount;

        FrameWriter(Method method) {
            beforeCount = Math.min(method.arguments.length, MOST_LOCALS);
            System.arraycopy(method.arguments, 0, before, 0, beforeCount);
        }

        int[] written() {
            return Arrays.copyOf(bytes, length);
        }

        /** Writes the frame of a state, or of a dead row where there is none. */
        void write(int place, State state) {
            if (state == null) {
                localCount = 0;
                stack[0] = World.OBJECT + World.THROWN;
                stackCount = 1;
            } else {
                listLocals(state);
                stackCount = Math.min(state.size, MOST_STACK);
                System.arraycopy(state.stack, 0, stack, 0, stackCount);
            }
            writeShortest(place - placeBefore - 1);
            placeBefore = place;
            int[] old = before;
            before = locals;
            beforeCount = localCount;
            locals = old;
        }

        private void listLocals(State state) {
            int count = 0;
            localCount = 0;
            for (int k = 0; k < state.locals.length && count < MOST_LOCALS; k += World.width(state.locals[k])) {
                locals[count] = state.locals[k];
                count++;
                if (state.locals[k] != World.TOP) {
                    localCount = count;
                }
            }
        }

        private void writeShortest(int distance) {
            int more = localCount - beforeCount;
            boolean isAlike = isOnePartOfOther();
            if (isAlike && more == 0 && stackCount == 0) {
                putKind(distance < SHORT ? distance : SAME_FAR, distance);
            } else if (isAlike && more == 0 && stackCount == 1) {
                putKind(distance < SHORT ? SAME_AND_ONE + distance : SAME_AND_ONE_FAR, distance);
                putTypes(stack, 0, 1);
            } else if (isAlike && more >= -MOST_CHANGED && more <= MOST_CHANGED && stackCount == 0) {
                putKind(SAME_FAR + more, distance);
                putTypes(locals, beforeCount, localCount);
            } else {
                putKind(FULL, distance);
                putPair(localCount);
                putTypes(locals, 0, localCount);
                putPair(stackCount);
                putTypes(stack, 0, stackCount);
            }
        }

        private boolean isOnePartOfOther() {
            for (int k = 0; k < localCount && k < beforeCount; k++) {
                if (locals[k] != before[k]) {
                    return false;
                }
            }
            return true;
        }

        /** The first byte, and the distance where that byte does not hold it. */
        private void putKind(int kind, int distance) {
            put(kind);
            if (kind >= SAME_AND_ONE_FAR) {
                putPair(distance);
            }
        }

        private void putTypes(int[] types, int from, int to) {
            for (int k = from; k < to; k++) {
                putType(types[k]);
            }
        }

        private void putType(int type) {
            if (type == World.LONG) {
                put(4);
            } else if (type == World.INT_ARRAY || type == World.LONG_ARRAY) {
                put(7);
                put(2);
                put(type);
            } else if (World.isUninitialized(type)) {
                put(8);
                put(type - World.UNINITIALIZED >>> 8);
                put(type - World.UNINITIALIZED & 255);
            } else if (World.isClassArray(type)) {
                put(7);
                put(1);
                put(type - World.ARRAY);
            } else if (World.isObject(type)) {
                put(7);
                put(0);
                put(type - World.OBJECT);
            } else {
                // TOP, INT and NULL have their own numbers here
                put(type);
            }
        }

        private void putPair(int value) {
            put(value >>> 8);
            put(value & 255);
        }

        private void put(int value) {
            if (length == bytes.length) {
                bytes = Arrays.copyOf(bytes, 2 * length);
            }
            bytes[length] = value;
            length++;
        }
    }

    /** The objects and arrays of a run, by numbers from 1 on; 0 is NULL. */
    private static final class Heap {
        static final int MOST = 150;
        static final int LONGEST = 24;

        /** Of what type each one is. */
        private final int[] types = new int[MOST];
        private final int[] lengths = new int[MOST];
        private final long[] values = new long[MOST * LONGEST];
        int made;

        /** A new object or array, all 0 or NULL; 0 if there can't be one more. */
        int make(int type, int length) {
            if (made >= MOST || length < 0 || length > LONGEST) {
                return 0;
            }
            types[made] = type;
            lengths[made] = length;
            Arrays.fill(values, made * LONGEST, made * LONGEST + length, 0L);
            made++;
            return made;
        }

        int typeOf(int one) {
            return one >= 1 && one <= made ? types[one - 1] : World.NULL;
        }

        int lengthOf(int one) {
            return one >= 1 && one <= made ? lengths[one - 1] : 0;
        }

        boolean hasValue(int one, int k) {
            return k >= 0 && k < lengthOf(one);
        }

        long valueAt(int one, int k) {
            return hasValue(one, k) ? values[(one - 1) * LONGEST + k] : 0;
        }

        void setValue(int one, int k, long value) {
            if (hasValue(one, k)) {
                values[(one - 1) * LONGEST + k] = value;
            }
        }
    }

    /** A method that runs. A LONG takes two of the stack, as of the locals, so that 88 and 92 need not ask. */
    private static final class Call {
        Method method;
        int place;
        final long[] locals = new long[MOST_LOCALS];
        final long[] stack = new long[MOST_STACK];
        int size;

        void start(Method started) {
            method = started;
            place = 0;
            size = 0;
        }

        void push(long value) {
            if (size < stack.length) {
                stack[size] = value;
                size++;
            }
        }

        long pop() {
            if (size == 0) {
                return 0;
            }
            size--;
            return stack[size];
        }

        void pushLong(long value) {
            push(value);
            push(0);
        }

        long popLong() {
            pop();
            return pop();
        }

        int popInt() {
            return (int) pop();
        }

        long localAt(int k) {
            return k >= 0 && k < locals.length ? locals[k] : 0;
        }

        void setLocal(int k, long value) {
            if (k >= 0 && k < locals.length) {
                locals[k] = value;
            }
        }
    }

    private static final class Machine {
        static final int RETURNED = 0;
        static final int THREW = 1;
        static final int NO_FUEL = 2;
        static final int NO_CALLS = 3;
        static final int NO_OBJECTS = 4;
        private static final int RUNNING = -2;
        private static final int MOST_CALLS = 24;
        private static final int ANY_ARRAY = 32;

        final Heap heap = new Heap();
        private final long[] statics = new long[World.MOST_FIELDS];
        private final Call[] calls = new Call[MOST_CALLS];
        private World world;
        private int depth;
        private Call call;
        /** The place that the instruction goes on to. */
        private int next;
        /** Whether the instruction throws an object of its own. */
        private boolean raises;
        /** What the instruction throws, or 0. */
        private int tossed;
        private int resultType;
        private long result;
        int outcome = NONE;
        int used;
        int thrownClass = NONE;

        Machine() {
            for (int k = 0; k < MOST_CALLS; k++) {
                calls[k] = new Call();
            }
        }

        void execute(World told, Method first, long a, long b, int fuel) {
            world = told;
            heap.made = 0;
            Arrays.fill(statics, 0L);
            resultType = first.result;
            result = 0;
            thrownClass = NONE;
            outcome = RUNNING;
            depth = 1;
            calls[0].start(first);
            setArguments(calls[0], a, b);
            for (used = 0; used < fuel && outcome == RUNNING && depth > 0; used++) {
                call = calls[depth - 1];
                step(call.method.byteAt(call.place));
                settle();
            }
            if (outcome == RUNNING) {
                outcome = NO_FUEL;
            }
        }

        private static void setArguments(Call first, long a, long b) {
            int[] types = first.method.arguments;
            int local = 0;
            for (int k = 0; k < types.length; k++) {
                long value = k == 0 ? a : k == 1 ? b : 0;
                first.setLocal(local, types[k] == World.INT ? (int) value : value);
                local += World.width(types[k]);
            }
        }

        /** What run() answers of a result. */
        long answer() {
            if (!World.isReference(resultType)) {
                return result;
            }
            int type = heap.typeOf((int) result);
            if (type == World.NULL) {
                return NONE;
            }
            return World.isObject(type) ? type - World.OBJECT : ANY_ARRAY;
        }

        /** Throws what the instruction throws, or goes on. */
        private void settle() {
            if (raises) {
                tossed = heap.make(World.OBJECT + World.THROWN, World.MOST_FIELDS);
                if (tossed == 0) {
                    outcome = NO_OBJECTS;
                }
            }
            if (tossed != 0) {
                toss();
            } else {
                call.place = next;
            }
        }

        private void toss() {
            int thrown = heap.typeOf(tossed) - World.OBJECT;
            for (; depth > 0; depth--) {
                Call catcher = calls[depth - 1];
                Handler handler = handlerOf(catcher, thrown);
                if (handler != null) {
                    catcher.size = 0;
                    catcher.push(tossed);
                    catcher.place = handler.place;
                    return;
                }
            }
            outcome = THREW;
            thrownClass = thrown;
        }

        private Handler handlerOf(Call catcher, int thrown) {
            ArrayList<Handler> handlers = catcher.method.handlers;
            for (int k = 0; k < handlers.size(); k++) {
                Handler handler = handlers.get(k);
                if (handler.covers(catcher.place) && world.subs(thrown, handler.caught)) {
                    return handler;
                }
            }
            return null;
        }

        private int operand() {
            return call.method.byteAt(call.place + 1);
        }

        private void step(int op) {
            next = call.place + Op.length(op);
            raises = false;
            tossed = 0;
            if (op <= Op.PUSH_SHORT) {
                pushConstant(op);
            } else if (Op.isGet(op)) {
                getElement(op);
            } else if (op <= Op.STORE_REFERENCE) {
                useLocal(op);
            } else if (op <= Op.PUT_REFERENCE) {
                putElement(op);
            } else if (op <= Op.SWAP) {
                moveOnStack(op);
            } else if (op == Op.INCREASE) {
                increase();
            } else if (op <= Op.COMPARE_LONGS) {
                reckon(op);
            } else if (Op.isBranch(op)) {
                branch(op);
            } else if (op <= Op.RETURN) {
                leave();
            } else if (op <= Op.PUT_FIELD) {
                useField(op, operand());
            } else if (op == Op.CALL) {
                enter();
            } else {
                useObject(op);
            }
        }

        private void pushConstant(int op) {
            if (op == Op.PUSH_NULL) {
                call.push(0);
            } else if (op == Op.PUSH_BYTE) {
                call.push(call.method.signedByteAt(call.place + 1));
            } else if (op == Op.PUSH_SHORT) {
                call.push(call.method.signedPairAt(call.place + 1));
            } else if (op >= Op.PUSH_LONG_ZERO) {
                call.pushLong(op - Op.PUSH_LONG_ZERO);
            } else if (op >= Op.PUSH_MINUS_ONE) {
                call.push(op - Op.PUSH_ZERO);
            }
        }

        private void useLocal(int op) {
            switch (op) {
                case Op.LOAD_INT:
                case Op.LOAD_REFERENCE:
                    call.push(call.localAt(operand()));
                    break;
                case Op.LOAD_LONG:
                    call.pushLong(call.localAt(operand()));
                    break;
                case Op.STORE_LONG:
                    call.setLocal(operand(), call.popLong());
                    break;
                default:
                    call.setLocal(operand(), call.pop());
                    break;
            }
        }

        private void getElement(int op) {
            int k = call.popInt();
            int array = call.popInt();
            if (!heap.hasValue(array, k)) {
                raises = true;
            } else if (op == Op.GET_LONG) {
                call.pushLong(heap.valueAt(array, k));
            } else {
                call.push(heap.valueAt(array, k));
            }
        }

        private void putElement(int op) {
            long value = op == Op.PUT_LONG ? call.popLong() : call.pop();
            int k = call.popInt();
            int array = call.popInt();
            int elements = heap.typeOf(array) - World.ARRAY + World.OBJECT;
            if (!heap.hasValue(array, k) || op == Op.PUT_REFERENCE && !isOf((int) value, elements)) {
                raises = true;
            } else {
                heap.setValue(array, k, value);
            }
        }

        /** Whether one of the heap, or NULL, is assignable to a type. */
        private boolean isOf(int one, int type) {
            return world.assignable(heap.typeOf(one), type);
        }

        private void moveOnStack(int op) {
            long upper = call.pop();
            switch (op) {
                case Op.POP_TWO:
                    call.pop();
                    break;
                case Op.DUP:
                    call.push(upper);
                    call.push(upper);
                    break;
                case Op.DUP_UNDER:
                    long under = call.pop();
                    call.push(upper);
                    call.push(under);
                    call.push(upper);
                    break;
                case Op.DUP_TWO:
                    long lower = call.pop();
                    call.push(lower);
                    call.push(upper);
                    call.push(lower);
                    call.push(upper);
                    break;
                case Op.SWAP:
                    long other = call.pop();
                    call.push(upper);
                    call.push(other);
                    break;
                default:
                    break;
            }
        }

        private void increase() {
            int more = call.method.signedByteAt(call.place + 2);
            call.setLocal(operand(), (int) call.localAt(operand()) + more);
        }

        private void reckon(int op) {
            if (op == Op.INT_TO_LONG) {
                call.pushLong(call.popInt());
            } else if (op == Op.LONG_TO_INT) {
                call.push((int) call.popLong());
            } else if (op == Op.COMPARE_LONGS) {
                long right = call.popLong();
                long left = call.popLong();
                call.push(left < right ? -1 : left == right ? 0 : 1);
            } else if ((op & 1) == 0) {
                int right = call.popInt();
                reckonInts(op, call.popInt(), right);
            } else {
                long right = call.popLong();
                reckonLongs(op, call.popLong(), right);
            }
        }

        private void reckonInts(int op, int left, int right) {
            if (op == Op.ADD_INT) {
                call.push(left + right);
            } else if (op == Op.SUBTRACT_INT) {
                call.push(left - right);
            } else if (op == Op.MULTIPLY_INT) {
                call.push(left * right);
            } else if (right == 0) {
                raises = true;
            } else {
                call.push(left / right);
            }
        }

        private void reckonLongs(int op, long left, long right) {
            if (op == Op.ADD_LONG) {
                call.pushLong(left + right);
            } else if (op == Op.SUBTRACT_LONG) {
                call.pushLong(left - right);
            } else if (op == Op.MULTIPLY_LONG) {
                call.pushLong(left * right);
            } else if (right == 0) {
                raises = true;
            } else {
                call.pushLong(left / right);
            }
        }

        private void branch(int op) {
            if (op == Op.BRANCH || isTaken(op)) {
                next = call.method.branchPlace(call.place);
            }
        }

        private boolean isTaken(int op) {
            if (op == Op.IF_NULL || op == Op.IF_NOT_NULL) {
                return (call.pop() == 0) == (op == Op.IF_NULL);
            }
            if (op <= Op.IF_NOT_ABOVE_ZERO) {
                return holds(op - Op.IF_ZERO, call.popInt(), 0);
            }
            int right = call.popInt();
            int left = call.popInt();
            return op <= Op.IF_NOT_ABOVE ? holds(op - Op.IF_EQUAL, left, right)
                : (left == right) == (op == Op.IF_SAME);
        }

        private static boolean holds(int comparison, int left, int right) {
            switch (comparison) {
                case 0:
                    return left == right;
                case 1:
                    return left != right;
                case 2:
                    return left < right;
                case 3:
                    return left >= right;
                case 4:
                    return left > right;
                default:
                    return left <= right;
            }
        }

        private void leave() {
            int type = call.method.result;
            long value = type == World.VOID ? 0 : type == World.LONG ? call.popLong() : call.pop();
            depth--;
            if (depth == 0) {
                result = value;
                outcome = RETURNED;
                return;
            }
            Call caller = calls[depth - 1];
            pushTyped(caller, type, value);
            caller.place += Op.length(Op.CALL);
        }

        private static void pushTyped(Call onto, int type, long value) {
            if (type == World.LONG) {
                onto.pushLong(value);
            } else if (type != World.VOID) {
                onto.push(value);
            }
        }

        private void enter() {
            Method callee = world.methodAt(operand());
            if (callee == null || depth >= MOST_CALLS) {
                outcome = NO_CALLS;
                return;
            }
            Call entered = calls[depth];
            depth++;
            entered.start(callee);
            for (int k = callee.argumentWords() - 1; k >= 0; k--) {
                entered.setLocal(k, call.pop());
            }
            // the caller stays at its instruction until the call is over: what is thrown looks there
            next = call.place;
        }

        private void useField(int op, int k) {
            int type = world.fieldType(k);
            boolean isPut = op == Op.PUT_STATIC || op == Op.PUT_FIELD;
            long value = !isPut ? 0 : type == World.LONG ? call.popLong() : call.pop();
            if (k >= statics.length) {
                return;
            }
            if (op == Op.GET_STATIC) {
                pushTyped(call, type, statics[k]);
            } else if (op == Op.PUT_STATIC) {
                statics[k] = value;
            } else {
                int object = call.popInt();
                if (object == 0) {
                    raises = true;
                } else if (isPut) {
                    heap.setValue(object, k, value);
                } else {
                    pushTyped(call, type, heap.valueAt(object, k));
                }
            }
        }

        private void useObject(int op) {
            switch (op) {
                case Op.BEGIN:
                    call.pop();
                    break;
                case Op.NEW:
                    pushMade(World.OBJECT + operand(), World.MOST_FIELDS);
                    break;
                case Op.NEW_NUMBERS:
                    makeArray(operand() == Op.INT_KIND ? World.INT_ARRAY : World.LONG_ARRAY);
                    break;
                case Op.NEW_ARRAY:
                    makeArray(World.ARRAY + operand());
                    break;
                case Op.LENGTH:
                    pushLength();
                    break;
                case Op.THROW:
                    tossed = call.popInt();
                    raises = tossed == 0;
                    break;
                case Op.CAST:
                    cast();
                    break;
                default:
                    int asked = call.popInt();
                    call.push(asked != 0 && isOf(asked, World.OBJECT + operand()) ? 1 : 0);
                    break;
            }
        }

        private void pushMade(int type, int length) {
            int made = heap.make(type, length);
            if (made == 0) {
                outcome = NO_OBJECTS;
            } else {
                call.push(made);
            }
        }

        private void makeArray(int type) {
            int length = call.popInt();
            if (length < 0 || length > Heap.LONGEST) {
                raises = true;
            } else {
                pushMade(type, length);
            }
        }

        private void pushLength() {
            int array = call.popInt();
            if (array == 0) {
                raises = true;
            } else {
                call.push(heap.lengthOf(array));
            }
        }

        private void cast() {
            int one = call.popInt();
            if (isOf(one, World.OBJECT + operand())) {
                call.push(one);
            } else {
                raises = true;
            }
        }
    }
}
