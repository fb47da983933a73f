/**
 * The promises' sentences that name a boundary case, one by one: what is too small, too large, empty or full, and each
 * refused call: what it throws, which of several exceptions comes first, and that nothing is changed by it.
 */
final class PromiseTest {
    private static final int[] FAR = {Integer.MIN_VALUE, -1000, -1, 1000, Integer.MAX_VALUE};

    public static void main(String[] args) {
        aNewObject();
        classUnderAnother();
        sixteenClasses();
        fieldOfClassAndType();
        sixteenFields();
        methodOfTypes();
        eightMethods();
        tapeOf400();
        codeOfHowManyBytes();
        codeOfWhichStackAndLocals();
        codeOnce();
        tapeIsEmptyThen();
        handlerOfMethodAndClass();
        handlerPlaces();
        handlerTooLate();
        verifyWhat();
        verifyOnce();
        verifyAtAFault();
        aboutWhat();
        aboutWithout();
        codeAtWhat();
        frameAtWhat();
        handlerAtWhat();
        typeAtWhat();
        typeAtWithout();
        runWhat();
        runFuel();
        runCalled();
        runStopped();
        runNumbers();
        runResults();
        endWithout();
        endOfEach();
        endOfARefusedRun();
        countWhat();
        fiveHundredCalls();
        Check.end("PromiseTest");
    }

    /** Classes 0 and 1; nothing else. */
    private static void aNewObject() {
        MapFramer x = new MapFramer();
        Check.same("classes of a new object", x.count(0), 2);
        Check.same("fields of a new object", x.count(1), 0);
        Check.same("methods of a new object", x.count(2), 0);
        Check.same("tape of a new object", x.count(3), 0);
        Check.illegalArgument("no class 2", () -> x.field(2, 1, true));
        Check.illegalArgument("no object of class 2", () -> x.method(0, 34));
        Check.illegalArgument("nothing on the tape", () -> coded(x, 0, 1, 0, 0));
        Check.illegalArgument("no method to verify", () -> x.verify(0));
        Check.illegalArgument("no method to run", () -> x.run(0, 0, 0, 1));
        MapFramer other = new MapFramer();
        x.cls(0, false);
        x.feed(0);
        Check.same("another object has its own classes", other.count(0), 2);
        Check.same("another object has its own tape", other.count(3), 0);
    }

    /** A class under another one (no interface), or an interface (parent is not looked at). */
    private static void classUnderAnother() {
        MapFramer x = new MapFramer();
        for (int parent : FAR) {
            Check.illegalArgument("no parent " + parent, () -> x.cls(parent, false));
        }
        Check.illegalArgument("the next number is no parent yet", () -> x.cls(2, false));
        Check.same("a refused class is not counted", x.count(0), 2);
        Check.same("the first number", x.cls(1, false), 2);
        Check.same("the greatest parent", x.cls(2, false), 3);
        Check.same("the least parent", x.cls(0, false), 4);
        int due = 5;
        for (int parent : FAR) {
            Check.same("an interface with parent " + parent, x.cls(parent, true), due);
            int made = due;
            Check.illegalArgument("under an interface", () -> x.cls(made, false));
            due++;
        }
        Check.same("an interface's parent may be one", x.cls(5, true), 10);
    }

    /** IllegalArgumentException if there is no such parent; IllegalStateException if there are 16. */
    private static void sixteenClasses() {
        MapFramer x = new MapFramer();
        x.cls(0, true);
        for (int k = 3; k < 16; k++) {
            Check.same("class " + k, x.cls(1, false), k);
        }
        Check.illegalState("a class too many", () -> x.cls(15, false));
        Check.illegalState("an interface too many", () -> x.cls(-5, true));
        Check.illegalArgument("no parent, and too many", () -> x.cls(16, false));
        Check.illegalArgument("an interface as parent, and too many", () -> x.cls(2, false));
        Check.same("sixteen", x.count(0), 16);
        Check.same("the last class is one", x.field(15, 32 + 15, false), 0);
        Check.illegalArgument("no class 16", () -> x.field(16, 1, true));
        Check.illegalArgument("no object of class 16", () -> x.field(1, 48, true));
        Check.same("an array of the last class", x.field(1, 64 + 15, true), 1);
        Check.illegalArgument("no array of class 16", () -> x.field(1, 80, true));
    }

    /** IllegalArgumentException if there is no such class or type, or it is not static and of class 0 or an interface. */
    private static void fieldOfClassAndType() {
        MapFramer x = new MapFramer();
        x.cls(0, true);
        for (int c : FAR) {
            Check.illegalArgument("no class " + c, () -> x.field(c, 1, true));
            Check.illegalArgument("no class " + c, () -> x.field(c, 1, false));
            Check.illegalArgument("no type " + c, () -> x.field(1, c, true));
        }
        Check.illegalArgument("the class behind the last", () -> x.field(3, 1, true));
        for (int type : new int[] {0, 5, 31, 35, 63, 67}) {
            Check.illegalArgument("no type " + type, () -> x.field(1, type, true));
            Check.illegalArgument("no type " + type, () -> x.field(1, type, false));
        }
        Check.illegalArgument("not static, of class 0", () -> x.field(0, 1, false));
        Check.illegalArgument("not static, of an interface", () -> x.field(2, 1, false));
        Check.same("a refused field is not counted", x.count(1), 0);
        Check.same("static, of class 0", x.field(0, 1, true), 0);
        Check.same("static, of an interface", x.field(2, 1, true), 1);
        Check.same("not static, of class 1", x.field(1, 1, false), 2);
        int due = 3;
        for (int type : new int[] {1, 2, 3, 4, 32, 34, 64, 66}) {
            Check.same("type " + type, x.field(1, type, false), due);
            due++;
        }
        x.cls(0, false);
        Check.same("a class told later", x.field(3, 35, false), due);
    }

    /** IllegalStateException if there are 16 (fields). */
    private static void sixteenFields() {
        MapFramer x = new MapFramer();
        for (int k = 0; k < 16; k++) {
            Check.same("field " + k, x.field(1, 1 + k % 4, k % 3 == 0), k);
        }
        Check.illegalState("a field too many", () -> x.field(1, 1, false));
        Check.illegalState("a static field too many", () -> x.field(0, 1, true));
        Check.illegalArgument("no class, and too many", () -> x.field(2, 1, true));
        Check.illegalArgument("no type, and too many", () -> x.field(1, 0, true));
        Check.illegalArgument("of class 0, and too many", () -> x.field(0, 1, false));
        Check.same("sixteen", x.count(1), 16);
    }

    /** A method, its arguments in bytes, the first one lowest, up to a 0. IllegalArgumentException if there is no such type. */
    private static void methodOfTypes() {
        Kit kit = new Kit();
        MapFramer x = kit.framer;
        for (int wrong : new int[] {5, 6, 31, 34, 63, 66, 80, 127, 128, 255}) {
            for (int k = 0; k < 4; k++) {
                int packed = 0x01010101 & ~(255 << 8 * k) | wrong << 8 * k;
                Check.illegalArgument("argument " + k + " of type " + wrong, () -> x.method(packed, 0));
            }
            Check.illegalArgument("a result of type " + wrong, () -> x.method(0, wrong));
        }
        for (int wrong : FAR) {
            Check.illegalArgument("a result of type " + wrong, () -> x.method(0, wrong));
        }
        Check.illegalArgument("a result of more than a byte", () -> x.method(0, 257));
        Check.same("a refused method is not counted", x.count(2), 0);
        Check.same("no argument", x.method(0, 0), 0);
        Check.same("four of the widest", x.method(0x02020202, 65), 1);
        Check.same("the highest byte without sign", x.method(0x41010101, 64), 2);
        Check.same("nothing behind a 0", x.method(0x01010002, 4), 3);
        kit.code(3, 2, 2, 1, 176);
        Check.same("one argument alone", x.verify(3), 0);
        Check.same("its type", kit.types(3, 0), "2 0 |");
        Check.same("none behind a 0 at first", x.method(0x01010100, 0), 4);
        kit.code(4, 0, 0, 177);
        Check.same("no locals", x.verify(4), 0);
    }

    /** IllegalStateException if there are 8 (methods). */
    private static void eightMethods() {
        MapFramer x = new MapFramer();
        int[] results = {0, 1, 2, 3, 4, 32, 33, 65};
        for (int k = 0; k < 8; k++) {
            Check.same("method " + k, x.method(k % 2, results[k]), k);
        }
        Check.illegalState("a method too many", () -> x.method(0, 0));
        Check.illegalArgument("no argument type, and too many", () -> x.method(5, 0));
        Check.illegalArgument("no result type, and too many", () -> x.method(0, 5));
        Check.same("eight", x.count(2), 8);
        x.feed(0);
        Check.illegalArgument("no code of method 8", () -> coded(x, 8, 1, 0, 0));
        Check.illegalArgument("no handler of method 8", () -> x.handler(8, 0, 1, 0, 1));
        Check.illegalArgument("method 8 is not verified", () -> x.verify(8));
        Check.illegalArgument("method 8 does not run", () -> x.run(8, 0, 0, 1));
        Check.outOfBounds("nothing about method 8", () -> x.about(8, 0));
        Check.outOfBounds("no byte of method 8", () -> x.codeAt(8, 0));
        Check.outOfBounds("no frame of method 8", () -> x.frameAt(8, 0));
        Check.outOfBounds("no handler of method 8", () -> x.handlerAt(8, 0, 0));
        Check.outOfBounds("no type of method 8", () -> x.typeAt(8, 0, 0));
        x.feed(0xB808B100);
        x.code(0, 3, 0, 0);
        Check.unsupported("no call of method 8", () -> x.verify(0));
        Check.same("its fault", x.about(0, 0) + " at " + x.about(0, 1), "3 at 0");
    }

    /** Four bytes, the highest first, come to the tape: true; false if it would have more than 400. */
    private static void tapeOf400() {
        Kit kit = new Kit();
        MapFramer x = kit.framer;
        for (int k = 0; k < 99; k++) {
            x.feed(0x00010203);
        }
        Check.same("396 bytes", x.count(3), 396);
        Check.same("the last four", x.feed(-1), true);
        Check.same("400 bytes", x.count(3), 400);
        Check.same("four too many", x.feed(0), false);
        Check.same("none of them came", x.count(3), 400);
        x.method(0, 0);
        x.code(0, 120, 0, 0);
        Check.same("the first bytes of a full tape", kit.code(0).substring(0, 15), "0 1 2 3 0 1 2 3");
        Check.same("the tape is free again", x.feed(0x80FF7F00), true);
        x.method(0, 0);
        x.code(1, 4, 0, 0);
        Check.same("bytes without sign", kit.code(1), "128 255 127 0");
    }

    private static String coded(MapFramer x, int method, int n, int maxStack, int maxLocals) {
        x.code(method, n, maxStack, maxLocals);
        return "nothing thrown";
    }

    private static void feed(MapFramer x, int bytes) {
        for (int k = 0; k < bytes; k += 4) {
            x.feed(0xB1B1B1B1);
        }
    }

    /** IllegalArgumentException if there is no such method, n is not 1 .. 120 or more than there are. */
    private static void codeOfHowManyBytes() {
        MapFramer x = new MapFramer();
        x.method(0, 0);
        for (int method : new int[] {Integer.MIN_VALUE, -1, 1, 8, Integer.MAX_VALUE}) {
            feed(x, 4);
            Check.illegalArgument("no method " + method, () -> coded(x, method, 1, 0, 0));
        }
        for (int n : new int[] {Integer.MIN_VALUE, -1, 0, 121, 400, Integer.MAX_VALUE}) {
            feed(x, 400);
            Check.illegalArgument("n is " + n, () -> coded(x, 0, n, 0, 0));
        }
        feed(x, 4);
        Check.illegalArgument("one more than there are", () -> coded(x, 0, 5, 0, 0));
        Check.illegalArgument("one of none", () -> coded(x, 0, 1, 0, 0));
        Check.same("no code came of it", x.about(0, 3), 0);
        feed(x, 4);
        x.code(0, 1, 0, 0);
        Check.same("one byte", x.about(0, 3), 1);
        x.method(0, 0);
        feed(x, 4);
        x.code(1, 4, 0, 0);
        Check.same("all there are", x.about(1, 3), 4);
        x.method(0, 0);
        feed(x, 120);
        x.code(2, 120, 0, 0);
        Check.same("120 bytes", x.about(2, 3), 120);
    }

    /** .. or MAXSTACK, MAXLOCALS can't be. */
    private static void codeOfWhichStackAndLocals() {
        Kit kit = new Kit();
        MapFramer x = kit.framer;
        int[] words = {0, 1, 2, 4, 8, 5};
        int[] packed = {0, 1, 2, 0x01010101, 0x02020202, 0x02012001};
        for (int k = 0; k < words.length; k++) {
            int method = x.method(packed[k], 0);
            for (int stack : new int[] {Integer.MIN_VALUE, -1, 13, Integer.MAX_VALUE}) {
                feed(x, 4);
                Check.illegalArgument("MAXSTACK " + stack, () -> coded(x, method, 1, stack, 12));
            }
            for (int locals : new int[] {Integer.MIN_VALUE, -1, words[k] - 1, 13, Integer.MAX_VALUE}) {
                feed(x, 4);
                Check.illegalArgument("MAXLOCALS " + locals, () -> coded(x, method, 1, 0, locals));
            }
            Check.same("no code came of it", x.about(method, 3), 0);
            boolean isLeast = k % 2 == 0;
            feed(x, 4);
            x.code(method, 1, isLeast ? 0 : 12, isLeast ? words[k] : 12);
            Check.same("MAXSTACK", x.about(method, 6), isLeast ? 0 : 12);
            Check.same("MAXLOCALS", x.about(method, 7), isLeast ? words[k] : 12);
        }
    }

    /** The tape's first n bytes become the code of a method that has none. IllegalStateException if it has code. */
    private static void codeOnce() {
        Kit kit = new Kit();
        MapFramer x = kit.framer;
        x.method(0, 0);
        kit.feed(177, 1, 2, 3, 4, 5, 6, 7);
        x.code(0, 3, 1, 2);
        Check.same("the first three", kit.code(0), "177 1 2");
        feed(x, 8);
        Check.illegalState("it has code", () -> coded(x, 0, 8, 0, 0));
        feed(x, 4);
        Check.illegalArgument("no bytes, and code", () -> coded(x, 0, 5, 0, 0));
        feed(x, 4);
        Check.illegalArgument("MAXSTACK 13, and code", () -> coded(x, 0, 1, 13, 0));
        feed(x, 4);
        Check.illegalArgument("MAXLOCALS 13, and code", () -> coded(x, 0, 1, 0, 13));
        Check.same("the code stays", kit.code(0), "177 1 2");
        Check.same("MAXSTACK stays", x.about(0, 6), 1);
        Check.same("MAXLOCALS stays", x.about(0, 7), 2);
        kit.verify(0);
        feed(x, 4);
        Check.illegalState("it was verified", () -> coded(x, 0, 1, 0, 0));
    }

    /** The tape is empty then, whatever came of it. */
    private static void tapeIsEmptyThen() {
        MapFramer x = new MapFramer();
        x.method(0, 0);
        int[][] calls = {{1, 1, 0, 0}, {-1, 1, 0, 0}, {0, 0, 0, 0}, {0, 121, 0, 0}, {0, 13, 0, 0}, {0, 1, 13, 0},
            {0, 1, 0, 13}, {0, 1, -1, 0}, {0, 1, 0, -1}};
        for (int[] call : calls) {
            feed(x, 12);
            Check.illegalArgument("code " + java.util.Arrays.toString(call),
                () -> coded(x, call[0], call[1], call[2], call[3]));
            Check.same("empty behind " + java.util.Arrays.toString(call), x.count(3), 0);
        }
        feed(x, 12);
        x.code(0, 5, 0, 0);
        Check.same("what was more than n is gone, too", x.count(3), 0);
        feed(x, 12);
        Check.illegalState("code once more", () -> coded(x, 0, 5, 0, 0));
        Check.same("empty behind IllegalStateException", x.count(3), 0);
    }

    /** IllegalArgumentException if there is no such method with code or class. */
    private static void handlerOfMethodAndClass() {
        Kit kit = new Kit();
        MapFramer x = kit.framer;
        Check.illegalArgument("no method at all", () -> x.handler(0, 0, 1, 0, 1));
        x.method(0, 0);
        Check.illegalArgument("no code", () -> x.handler(0, 0, 1, 0, 1));
        kit.code(0, 1, 0, 177);
        for (int method : new int[] {Integer.MIN_VALUE, -1, 1, Integer.MAX_VALUE}) {
            Check.illegalArgument("no method " + method, () -> x.handler(method, 0, 1, 0, 1));
        }
        Check.illegalArgument("no class 2 yet", () -> x.handler(0, 0, 1, 0, 2));
        x.cls(1, false);
        x.cls(2, false);
        x.cls(0, false);
        x.cls(1, true);
        for (int c : new int[] {Integer.MIN_VALUE, -2, 0, 4, 5, 6, 15, 16, 33, Integer.MAX_VALUE}) {
            Check.illegalArgument("no class to handle: " + c, () -> x.handler(0, 0, 1, 0, c));
        }
        Check.same("no handler came of it", x.about(0, 5), 0);
        Check.same("NONE", x.handler(0, 0, 1, 0, MapFramer.NONE), 0);
        Check.same("1", x.handler(0, 0, 1, 0, 1), 1);
        Check.same("under 1", x.handler(0, 0, 1, 0, 2), 2);
        Check.same("under that", x.handler(0, 0, 1, 0, 3), 3);
        Check.same("classes", kit.handlers(0), "0-1>0:1 0-1>0:1 0-1>0:2 0-1>0:3");
    }

    /** .. or from, to, place are not 0 .. 120. */
    private static void handlerPlaces() {
        Kit kit = new Kit();
        MapFramer x = kit.framer;
        kit.told(0, 0, 1, 0, 177);
        for (int wrong : new int[] {Integer.MIN_VALUE, -1, 121, Integer.MAX_VALUE}) {
            Check.illegalArgument("from " + wrong, () -> x.handler(0, wrong, 1, 0, 1));
            Check.illegalArgument("to " + wrong, () -> x.handler(0, 0, wrong, 0, 1));
            Check.illegalArgument("place " + wrong, () -> x.handler(0, 0, 1, wrong, 1));
        }
        Check.same("no handler came of it", x.about(0, 5), 0);
        Check.same("all 0", x.handler(0, 0, 0, 0, 1), 0);
        Check.same("all 120, far behind the code", x.handler(0, 120, 120, 120, 1), 1);
        Check.same("from behind to", x.handler(0, 120, 0, 0, 1), 2);
        Check.same("as they were told", kit.handlers(0), "0-0>0:1 120-120>120:1 120-0>0:1");
    }

    /** IllegalStateException if it was verified, or has 6. */
    private static void handlerTooLate() {
        Kit kit = new Kit();
        MapFramer x = kit.framer;
        int full = kit.told(0, 0, 1, 0, 177);
        for (int k = 0; k < 6; k++) {
            Check.same("handler " + k, x.handler(full, 0, 1, 0, 1), k);
        }
        Check.illegalState("the seventh", () -> x.handler(full, 0, 1, 0, 1));
        Check.illegalArgument("no class, and the seventh", () -> x.handler(full, 0, 1, 0, 0));
        Check.illegalArgument("no place, and the seventh", () -> x.handler(full, 0, 1, 121, 1));
        Check.same("six", x.about(full, 5), 6);
        int sound = kit.made(0, 0, 1, 0, 177);
        Check.illegalState("verified", () -> x.handler(sound, 0, 1, 0, 1));
        Check.illegalArgument("no class, and verified", () -> x.handler(sound, 0, 1, 0, -2));
        Check.illegalArgument("no place, and verified", () -> x.handler(sound, -1, 1, 0, 1));
        Check.same("none came of it", x.about(sound, 5), 0);
        int bad = kit.made(0, 0, 1, 0, 255);
        Check.illegalState("verified with a fault", () -> x.handler(bad, 0, 1, 0, 1));
        Check.same("none came of it", x.about(bad, 5), 0);
    }

    /** IllegalArgumentException if there is no such method with code. */
    private static void verifyWhat() {
        Kit kit = new Kit();
        MapFramer x = kit.framer;
        for (int method : FAR) {
            Check.illegalArgument("no method " + method, () -> x.verify(method));
        }
        x.method(0, 0);
        Check.illegalArgument("no code", () -> x.verify(0));
        Check.illegalArgument("the next method", () -> x.verify(1));
        Check.same("not verified by that", x.about(0, 2), 0);
        kit.code(0, 0, 0, 177);
        Check.same("with code", x.verify(0), 0);
        Check.same("verified", x.about(0, 2), 1);
    }

    /** IllegalStateException if it was verified. */
    private static void verifyOnce() {
        Kit kit = new Kit();
        MapFramer x = kit.framer;
        int loop = kit.told(0, 0, 0, 0, 167, 0, 0, 0);
        Check.same("frames", x.verify(loop), 2);
        Check.illegalState("once more", () -> x.verify(loop));
        Check.same("all stays", kit.code(loop) + " | " + kit.frames(loop), "167 0 0 191 | 0 66 7 0 1");
        int bad = kit.told(0, 0, 0, 0, 0);
        Check.unsupported("a fault", () -> x.verify(bad));
        Check.illegalState("once more", () -> x.verify(bad));
        Check.same("the fault stays", kit.fault(bad), "8 at 0");
    }

    /** UnsupportedOperationException at a fault. */
    private static void verifyAtAFault() {
        int[][] codes = {{255}, {21, 0}, {187, 9}, {167, 0, 9}, {87}, {3}, {0}, {1, 58}};
        for (int[] code : codes) {
            Kit kit = new Kit();
            MapFramer x = kit.framer;
            int bad = kit.told(0, 0, 0, 0, code);
            Check.unsupported("a fault of " + java.util.Arrays.toString(code), () -> x.verify(bad));
            Check.same("verified all the same", x.about(bad, 2), 1);
            Check.same("the code stays", x.about(bad, 3), code.length);
            Check.same("no bytes of frames", x.about(bad, 4), 0);
            Check.same("MAXSTACK stays", x.about(bad, 6), 0);
            Check.same("no frames", x.about(bad, 8), 0);
            Check.illegalArgument("it can't be run", () -> x.run(bad, 0, 0, 1));
        }
    }

    /** about: IndexOutOfBoundsException if there is no such method or which. */
    private static void aboutWhat() {
        Kit kit = new Kit();
        MapFramer x = kit.framer;
        Check.outOfBounds("no method at all", () -> x.about(0, 0));
        kit.made(0, 0, 0, 0, 177);
        for (int wrong : new int[] {Integer.MIN_VALUE, -1, 9, Integer.MAX_VALUE}) {
            Check.outOfBounds("which " + wrong, () -> x.about(0, wrong));
            Check.outOfBounds("method " + wrong, () -> x.about(wrong, 0));
        }
        Check.outOfBounds("the next method", () -> x.about(1, 0));
        Check.same("the least which", x.about(0, 0), 0);
        Check.same("the greatest which", x.about(0, 8), 0);
    }

    /** about: its fault (0 if it has none, or was not verified), NONE without, bytes of code (0 without). */
    private static void aboutWithout() {
        Kit kit = new Kit();
        MapFramer x = kit.framer;
        x.method(0x0201, 1);
        int[] empty = {0, -1, 0, 0, 0, 0, 0, 0, 0};
        for (int which = 0; which < 9; which++) {
            Check.same("without code, about " + which, x.about(0, which), empty[which]);
        }
        kit.code(0, 2, 3, 255);
        int[] told = {0, -1, 0, 1, 0, 0, 2, 3, 0};
        for (int which = 0; which < 9; which++) {
            Check.same("not verified, about " + which, x.about(0, which), told[which]);
        }
        kit.verify(0);
        int[] bad = {1, 0, 1, 1, 0, 0, 2, 3, 0};
        for (int which = 0; which < 9; which++) {
            Check.same("with a fault, about " + which, x.about(0, which), bad[which]);
        }
        int handled = kit.told(0, 0, 1, 0, 177);
        x.handler(handled, 0, 1, 0, 1);
        x.handler(handled, 0, 2, 0, 1);
        kit.verify(handled);
        Check.same("a handler's number", kit.fault(handled), "5 at 1");
        Check.same("the handlers stay", x.about(handled, 5), 2);
    }

    /** codeAt: IndexOutOfBoundsException if there is none. */
    private static void codeAtWhat() {
        Kit kit = new Kit();
        MapFramer x = kit.framer;
        Check.outOfBounds("no method", () -> x.codeAt(0, 0));
        x.method(0, 0);
        Check.outOfBounds("no code", () -> x.codeAt(0, 0));
        int[] code = new int[120];
        code[0] = 177;
        code[119] = 255;
        kit.code(0, 0, 0, code);
        for (int k : new int[] {Integer.MIN_VALUE, -1, 120, Integer.MAX_VALUE}) {
            Check.outOfBounds("byte " + k, () -> x.codeAt(0, k));
            Check.outOfBounds("method " + k, () -> x.codeAt(k, 0));
        }
        Check.same("the first", x.codeAt(0, 0), 177);
        Check.same("the last", x.codeAt(0, 119), 255);
        int dead = kit.told(0, 0, 0, 0, 177, 16, 9);
        Check.same("as it was told", kit.code(dead), "177 16 9");
        x.verify(dead);
        Check.same("as it is now", kit.code(dead), "177 0 191");
        Check.outOfBounds("no byte behind", () -> x.codeAt(dead, 3));
    }

    /** frameAt: IndexOutOfBoundsException if there is none. */
    private static void frameAtWhat() {
        Kit kit = new Kit();
        MapFramer x = kit.framer;
        Check.outOfBounds("no method", () -> x.frameAt(0, 0));
        x.method(0, 0);
        Check.outOfBounds("no code", () -> x.frameAt(0, 0));
        kit.code(0, 0, 0, 177, 0);
        Check.outOfBounds("not verified", () -> x.frameAt(0, 0));
        x.verify(0);
        Check.same("bytes", x.about(0, 4), 4);
        for (int k : new int[] {Integer.MIN_VALUE, -1, 4, Integer.MAX_VALUE}) {
            Check.outOfBounds("byte " + k, () -> x.frameAt(0, k));
            Check.outOfBounds("method " + k, () -> x.frameAt(k, 0));
        }
        Check.same("the first", x.frameAt(0, 0), 65);
        Check.same("the last", x.frameAt(0, 3), 1);
        int none = kit.made(0, 0, 0, 0, 177);
        Check.outOfBounds("a method without frames", () -> x.frameAt(none, 0));
        int bad = kit.made(0, 0, 0, 0, 177, 255);
        Check.outOfBounds("a method with a fault", () -> x.frameAt(bad, 0));
    }

    /** handlerAt: IndexOutOfBoundsException if there is none. */
    private static void handlerAtWhat() {
        Kit kit = new Kit();
        MapFramer x = kit.framer;
        Check.outOfBounds("no method", () -> x.handlerAt(0, 0, 0));
        x.method(0, 0);
        Check.outOfBounds("no code", () -> x.handlerAt(0, 0, 0));
        kit.code(0, 1, 0, 167, 0, 4, 0, 177, 87, 177);
        Check.outOfBounds("no handler", () -> x.handlerAt(0, 0, 0));
        x.handler(0, 0, 5, 5, MapFramer.NONE);
        for (int wrong : new int[] {Integer.MIN_VALUE, -1, 4, Integer.MAX_VALUE}) {
            Check.outOfBounds("handler " + wrong, () -> x.handlerAt(0, wrong, 0));
            Check.outOfBounds("what " + wrong, () -> x.handlerAt(0, 0, wrong));
            Check.outOfBounds("method " + wrong, () -> x.handlerAt(wrong, 0, 0));
        }
        Check.outOfBounds("the next handler", () -> x.handlerAt(0, 1, 0));
        Check.same("as it was told", kit.handlers(0), "0-5>5:1");
        x.verify(0);
        Check.same("as it is now", kit.handlers(0), "0-3>5:1 4-5>5:1");
        Check.outOfBounds("none behind what is left", () -> x.handlerAt(0, 2, 0));
        int gone = kit.told(0, 0, 1, 0, 177, 0);
        x.handler(gone, 1, 2, 0, 1);
        x.verify(gone);
        Check.outOfBounds("one that is gone", () -> x.handlerAt(gone, 0, 0));
    }

    /** typeAt: local k; for k from 100 on the stack's k - 100 from its bottom, a LONG one place. */
    private static void typeAtWhat() {
        Kit kit = new Kit();
        MapFramer x = kit.framer;
        int full = kit.made(0x02010201, 0, 12, 12, 9, 9, 9, 9, 9, 9, 0, 177);
        Check.same("arguments", kit.types(full, 0), "1 2 0 1 2 0 0 0 0 0 0 0 |");
        Check.same("the last local", x.typeAt(full, 6, 11), 0);
        Check.outOfBounds("behind the last local", () -> x.typeAt(full, 6, 12));
        Check.outOfBounds("just below the stack", () -> x.typeAt(full, 6, 99));
        Check.same("the stack's bottom", x.typeAt(full, 6, 100), 2);
        Check.same("the stack's top", x.typeAt(full, 6, 105), 2);
        Check.outOfBounds("above the stack's top", () -> x.typeAt(full, 6, 106));
        Check.outOfBounds("an empty stack", () -> x.typeAt(full, 0, 100));
        Check.same("one on the stack", x.typeAt(full, 1, 100), 2);
        Check.outOfBounds("the next one", () -> x.typeAt(full, 1, 101));
        int order = kit.made(0, 0, 12, 0, 1, 3, 9, 3, 188, 10, 177);
        Check.same("from the bottom", kit.types(order, 6), "| 5 1 2 3");
        Check.outOfBounds("no locals at all", () -> x.typeAt(order, 0, 0));
        int ints = kit.made(0, 0, 12, 0, 3, 3, 3, 3, 3, 3, 3, 3, 3, 3, 3, 3, 177);
        Check.same("the twelfth", x.typeAt(ints, 12, 111), 1);
        Check.outOfBounds("the thirteenth", () -> x.typeAt(ints, 12, 112));
        for (int k : FAR) {
            Check.outOfBounds("k is " + k, () -> x.typeAt(full, 6, k));
            Check.outOfBounds("place is " + k, () -> x.typeAt(full, k, 0));
            Check.outOfBounds("method is " + k, () -> x.typeAt(k, 0, 0));
        }
    }

    /** typeAt: IndexOutOfBoundsException if the method was not verified, has a fault, or there is none such. */
    private static void typeAtWithout() {
        Kit kit = new Kit();
        MapFramer x = kit.framer;
        Check.outOfBounds("no method", () -> x.typeAt(0, 0, 0));
        x.method(1, 0);
        Check.outOfBounds("no code", () -> x.typeAt(0, 0, 0));
        kit.code(0, 1, 1, 16, 7, 177, 0, 87);
        Check.outOfBounds("not verified", () -> x.typeAt(0, 0, 0));
        x.verify(0);
        Check.same("the first instruction", x.typeAt(0, 0, 0), 1);
        Check.outOfBounds("no instruction's beginning", () -> x.typeAt(0, 1, 0));
        Check.same("the last one that had a state", x.typeAt(0, 2, 100), 1);
        Check.outOfBounds("a dead row's frame is no state", () -> x.typeAt(0, 3, 100));
        Check.outOfBounds("a dead row's end", () -> x.typeAt(0, 4, 0));
        Check.outOfBounds("the code's end", () -> x.typeAt(0, 5, 0));
        Check.outOfBounds("the next method", () -> x.typeAt(1, 0, 0));
        int bad = kit.made(1, 0, 1, 1, 0, 0, 87);
        Check.outOfBounds("a fault further on", () -> x.typeAt(bad, 0, 0));
    }

    /** run: IllegalArgumentException if there is no such one. */
    private static void runWhat() {
        Kit kit = new Kit();
        MapFramer x = kit.framer;
        for (int method : FAR) {
            Check.illegalArgument("no method " + method, () -> x.run(method, 0, 0, 9));
        }
        x.method(0, 0);
        Check.illegalArgument("no code", () -> x.run(0, 0, 0, 9));
        kit.code(0, 0, 0, 177);
        Check.illegalArgument("not verified", () -> x.run(0, 0, 0, 9));
        Check.illegalArgument("the next method", () -> x.run(1, 0, 0, 9));
        x.verify(0);
        Check.same("verified", x.run(0, 0, 0, 9), 0);
        int bad = kit.made(0, 0, 0, 0, 87);
        Check.illegalArgument("a fault", () -> x.run(bad, 0, 0, 9));
        int numbers = kit.made(0x02010201, 0, 0, 12, 177);
        Check.same("four numbers", x.run(numbers, 0, 0, 9), 0);
        int[] packed = {3, 0x04010101, 0x00200102, 0x4001};
        for (int arguments : packed) {
            int takes = kit.made(arguments, 0, 0, 12, 177);
            Check.illegalArgument("a reference among " + arguments, () -> x.run(takes, 0, 0, 9));
        }
    }

    /** run: .. or fuel is not 1 .. 20000. */
    private static void runFuel() {
        Kit kit = new Kit();
        MapFramer x = kit.framer;
        int one = kit.made(0, 0, 0, 0, 177);
        for (int fuel : new int[] {Integer.MIN_VALUE, -1, 0, 20001, Integer.MAX_VALUE}) {
            Check.illegalArgument("fuel " + fuel, () -> x.run(one, 0, 0, fuel));
        }
        Check.same("no run came of it", x.end(0), -1);
        Check.same("the least fuel", x.run(one, 0, 0, 1), 0);
        Check.same("the most fuel", x.run(one, 0, 0, 20000), 0);
        Check.same("used", x.end(1), 1);
    }

    /** run: IllegalStateException if a method that it calls (by others or not) was not verified or has a fault. */
    private static void runCalled() {
        Kit kit = new Kit();
        MapFramer x = kit.framer;
        for (int k = 0; k < 8; k++) {
            x.method(0, 0);
        }
        kit.code(7, 0, 0, 177);
        for (int k = 6; k >= 0; k--) {
            kit.code(k, 1, 0, 3, 154, 0, 5, 184, k + 1, 177);
        }
        for (int k = 0; k < 7; k++) {
            x.verify(k);
            int from = k;
            Check.illegalState("method 7 was not verified", () -> x.run(from, 0, 0, 9));
        }
        Check.illegalArgument("fuel 0 comes first", () -> x.run(0, 0, 0, 0));
        Check.illegalArgument("fuel 20001 comes first", () -> x.run(0, 0, 0, 20001));
        x.verify(7);
        Check.same("the last of a row of seven calls was verified", x.run(0, 0, 0, 99), 0);
        calledDownwards();
        Kit other = new Kit();
        MapFramer y = other.framer;
        int bad = other.told(0, 0, 0, 0, 87, 177);
        int between = other.told(0, 0, 0, 0, 184, bad, 177);
        int first = other.told(0, 0, 0, 0, 184, between, 177);
        int dead = other.told(0, 0, 0, 0, 177, 184, bad);
        for (int method : new int[] {bad, between, first, dead}) {
            other.verify(method);
        }
        Check.illegalState("a fault of one that it calls", () -> y.run(between, 0, 0, 9));
        Check.illegalState("a fault of one that is called by another", () -> y.run(first, 0, 0, 9));
        Check.same("a call in dead code is none", y.run(dead, 0, 0, 9), 0);
        int self = other.made(1, 0, 1, 1, 21, 0, 153, 0, 7, 3, 184, 4, 177, 177);
        Check.same("of itself", y.run(self, 1, 0, 99), 0);
        int round = other.told(0, 0, 0, 0, 184, 6, 177);
        int back = other.told(0, 0, 0, 0, 184, round, 177);
        y.verify(round);
        Check.illegalState("one of two that call one another", () -> y.run(round, 0, 0, 99));
        y.verify(back);
        Check.unsupported("two that call one another for ever", () -> y.run(round, 0, 0, 99));
        Check.same("calls", y.end(0), 3);
    }

    /** As far by calls as it can be, each one to the number below. */
    private static void calledDownwards() {
        Kit kit = new Kit();
        MapFramer x = kit.framer;
        kit.told(0, 0, 0, 0, 177);
        for (int k = 1; k < 8; k++) {
            kit.made(0, 0, 0, 0, 184, k - 1, 177);
        }
        for (int k = 1; k < 8; k++) {
            int from = k;
            Check.illegalState("method 0 was not verified", () -> x.run(from, 0, 0, 99));
        }
        x.verify(0);
        Check.same("it was", x.run(7, 0, 0, 99), 0);
    }

    /** run: UnsupportedOperationException if it throws, or fuel, calls or objects are used up. */
    private static void runStopped() {
        Kit kit = new Kit();
        MapFramer x = kit.framer;
        int throwing = kit.made(0, 1, 2, 0, 3, 3, 108, 172);
        Check.unsupported("it throws", () -> x.run(throwing, 0, 0, 9));
        Check.same("end", x.end(0), 1);
        Check.unsupported("fuel is used up", () -> x.run(throwing, 0, 0, 2));
        Check.same("end", x.end(0), 2);
        int calling = kit.made(0, 0, 0, 0, 184, 1, 177);
        Check.unsupported("calls are used up", () -> x.run(calling, 0, 0, 20000));
        Check.same("end", x.end(0), 3);
        int making = kit.made(0, 0, 1, 0, 187, 0, 87, 167, 255, 253);
        Check.unsupported("objects are used up", () -> x.run(making, 0, 0, 20000));
        Check.same("end", x.end(0), 4);
    }

    /** run: two numbers as its first INT or LONG arguments (others 0). */
    private static void runNumbers() {
        Kit kit = new Kit();
        int none = kit.made(0, 1, 1, 0, 8, 172);
        Check.same("no argument takes none", kit.run(none, 7, 7, 9), 5);
        int one = kit.made(1, 1, 1, 1, 21, 0, 172);
        Check.same("an INT", kit.run(one, Integer.MAX_VALUE, 3, 9), Integer.MAX_VALUE);
        Check.same("an INT wraps", kit.run(one, Integer.MAX_VALUE + 1L, 3, 9), Integer.MIN_VALUE);
        Check.same("an INT wraps", kit.run(one, Integer.MIN_VALUE - 1L, 3, 9), Integer.MAX_VALUE);
        Check.same("an INT wraps", kit.run(one, Long.MIN_VALUE, 3, 9), 0);
        Check.same("an INT wraps", kit.run(one, Long.MAX_VALUE, 3, 9), -1);
        int second = kit.made(0x0102, 1, 1, 3, 21, 2, 172);
        Check.same("a second INT wraps", kit.run(second, 5, 1L << 32 | 9, 9), 9);
        int[] places = {0, 2, 4, 6};
        long[] due = {Long.MIN_VALUE, Long.MAX_VALUE, 0, 0};
        for (int k = 0; k < 4; k++) {
            Kit other = new Kit();
            int four = other.made(0x02020202, 2, 2, 8, 22, places[k], 173);
            Check.same("LONG " + k, other.run(four, Long.MIN_VALUE, Long.MAX_VALUE, 9), due[k]);
            int ints = other.made(0x01010101, 1, 1, 4, 21, k, 172);
            Check.same("INT " + k, other.run(ints, -8, 8, 9), k == 0 ? -8 : k == 1 ? 8 : 0);
        }
    }

    /** run: of a reference its class' number (of arrays 32, NULL NONE), of void 0. */
    private static void runResults() {
        Kit kit = new Kit();
        for (int c = 2; c < 16; c++) {
            kit.framer.cls(0, false);
        }
        int[] results = {32, 47};
        int[] classes = {0, 15};
        for (int k = 0; k < 2; k++) {
            int made = kit.made(0, results[k], 2, 0, 187, classes[k], 89, 183, classes[k], 176);
            Check.same("class " + classes[k], kit.run(made), classes[k]);
        }
        int array = kit.made(0, 64 + 15, 1, 0, 3, 189, 15, 176);
        Check.same("an array of class 15", kit.run(array), 32);
        int asObject = kit.made(0, 32, 1, 0, 3, 188, 11, 176);
        Check.same("an array as an object of class 0", kit.run(asObject), 32);
        int nothing = kit.made(0, 3, 1, 0, 1, 176);
        Check.same("NULL", kit.run(nothing), -1);
        int quiet = kit.made(0, 0, 1, 0, 8, 177);
        Check.same("void", kit.run(quiet), 0);
    }

    /** end: NONE for another which; all NONE without one. */
    private static void endWithout() {
        Kit kit = new Kit();
        MapFramer x = kit.framer;
        int[] others = {Integer.MIN_VALUE, -1, 4, Integer.MAX_VALUE};
        int method = kit.told(0, 0, 0, 0, 177);
        for (int which = 0; which < 4; which++) {
            Check.same("without a run, end " + which, x.end(which), -1);
        }
        for (int which : others) {
            Check.same("without a run, end " + which, x.end(which), -1);
        }
        x.verify(method);
        Check.same("verify is no run", x.end(0), -1);
        x.run(method, 0, 0, 1);
        for (int which : others) {
            Check.same("end " + which, x.end(which), -1);
        }
    }

    private static String ends(MapFramer x) {
        return x.end(0) + " " + x.end(1) + " " + x.end(2) + " " + x.end(3);
    }

    /** end: of the latest run: how it ended, fuel that was used, the class of what was thrown (NONE else), objects made. */
    private static void endOfEach() {
        Kit kit = new Kit();
        MapFramer x = kit.framer;
        x.cls(1, false);
        int own = kit.made(0, 0, 2, 0, 187, 2, 89, 183, 2, 191);
        kit.run(own);
        Check.same("threw one of class 2", ends(x), "1 4 2 1");
        int good = kit.made(0, 0, 2, 0, 3, 188, 10, 87, 177);
        kit.run(good);
        Check.same("returned", ends(x), "0 4 -1 1");
        kit.run(own, 0, 0, 3);
        Check.same("no fuel", ends(x), "2 3 -1 1");
        int deep = kit.made(0, 0, 1, 0, 3, 188, 10, 87, 184, 2, 177);
        kit.run(deep);
        Check.same("no calls", ends(x), "3 96 -1 24");
        int many = kit.made(0, 0, 1, 0, 3, 189, 0, 87, 167, 255, 252);
        kit.run(many);
        Check.same("no objects", ends(x), "4 602 -1 150");
        int zero = kit.made(0, 1, 2, 0, 3, 3, 108, 172);
        kit.run(zero);
        Check.same("threw one of class 1", ends(x), "1 3 1 1");
        int nothing = kit.made(0, 0, 0, 0, 177);
        kit.run(nothing);
        Check.same("nothing but a return", ends(x), "0 1 -1 0");
    }

    /** end is of the latest run: one that is refused is none. */
    private static void endOfARefusedRun() {
        Kit kit = new Kit();
        MapFramer x = kit.framer;
        int good = kit.made(0, 0, 2, 0, 0, 0, 177);
        int late = kit.told(0, 0, 0, 0, 177);
        int caller = kit.made(0, 0, 0, 0, 184, late, 177);
        Check.illegalState("refused as the first", () -> x.run(caller, 0, 0, 9));
        Check.same("all NONE", ends(x), "-1 -1 -1 -1");
        kit.run(good);
        Check.same("a run", ends(x), "0 3 -1 0");
        Check.illegalState("refused", () -> x.run(caller, 0, 0, 9));
        Check.illegalArgument("refused", () -> x.run(late, 0, 0, 9));
        Check.illegalArgument("refused", () -> x.run(good, 0, 0, 0));
        Check.same("as it was", ends(x), "0 3 -1 0");
    }

    /** count: NONE for another what. */
    private static void countWhat() {
        MapFramer x = new MapFramer();
        for (int what : new int[] {Integer.MIN_VALUE, -1, 4, 5, Integer.MAX_VALUE}) {
            Check.same("count " + what, x.count(what), -1);
        }
        x.cls(0, false);
        x.field(2, 1, false);
        x.field(2, 1, false);
        x.method(0, 0);
        x.feed(0);
        Check.same("counts", x.count(0) + " " + x.count(1) + " " + x.count(2) + " " + x.count(3), "3 2 1 4");
    }

    /** An object is used for at most 512 calls after it has been made. */
    private static void fiveHundredCalls() {
        MapFramer x = new MapFramer();
        x.method(1, 1);
        x.feed(0x15000460);
        x.feed(0xAC000000);
        x.code(0, 5, 2, 1);
        x.verify(0);
        for (int call = 6; call <= 511; call++) {
            Check.same("call " + call, x.run(0, call, 0, 20000), call + 1);
        }
        Check.same("the 512th", x.end(1), 4);
    }
}
