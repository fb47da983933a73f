import java.util.Arrays;

/** The sentences of "RUNNING" and "FUEL", and of the instructions' values, that name a boundary case, one by one. */
final class RunningTest {
    private static final int MOST = Integer.MAX_VALUE;
    private static final int LEAST = Integer.MIN_VALUE;
    /** All kinds of references in a run, by their types. */
    private static final int[] KINDS = {5, 3, 4, 32, 33, 34, 35, 36, 37, 64, 66, 67, 70};
    /** Of which of the classes 0 .. 6 each of these is, as bits from the lowest on. */
    private static final int[] OF = {127, 65, 65, 65, 67, 69, 77, 83, 115, 65, 65, 65, 65};

    public static void main(String[] args) {
        signs();
        intsWrap();
        longsWrap();
        longsMoved();
        fullStack();
        increase();
        comparisons();
        dividingByZero();
        nullWhereOneIsWanted();
        placesOfArrays();
        lengths();
        casts();
        whatIsPutIn();
        isOfClass();
        valuesAtFirst();
        eachRunBeginsAnew();
        firstHandler();
        handlerEdges();
        stackEmptied();
        outOfTheMethod();
        eachCostsOne();
        noneLeft();
        callsDeep();
        objectsMade();
        objectsThrown();
        Check.end("RunningTest");
    }

    /** Classes 2, 3 under 2, 4 under 1, 5 under 4, interface 6; fields 0 .. 6 of 2, 7 .. 13 static. */
    private static Kit kit() {
        Kit kit = new Kit();
        MapFramer x = kit.framer;
        x.cls(0, false);
        x.cls(2, false);
        x.cls(1, false);
        x.cls(4, false);
        x.cls(0, true);
        for (int type : new int[] {1, 2, 3, 4, 34, 38, 66}) {
            x.field(2, type, false);
        }
        for (int type : new int[] {1, 2, 3, 4, 34, 38, 66}) {
            x.field(0, type, true);
        }
        return kit;
    }

    private static int[] join(int[] ahead, int... behind) {
        int[] all = Arrays.copyOf(ahead, ahead.length + behind.length);
        System.arraycopy(behind, 0, all, ahead.length, behind.length);
        return all;
    }

    private static String run(int arguments, int result, long a, long b, int... code) {
        Kit kit = kit();
        int method = kit.made(arguments, result, 12, 12, code);
        return kit.fault(method).equals("none") ? kit.run(method, a, b, 20000) : "fault " + kit.fault(method);
    }

    private static void due(Object answer, int result, int... code) {
        Check.same("run of " + Arrays.toString(code), run(0, result, 0, 0, code), answer);
    }

    private static void thrownDue(int result, int... code) {
        due("end 1 class 1", result, code);
    }

    /** 2 .. 8 push INT -1 .. 5. 9, 10 push LONG 0, 1. 16 pushes INT i (with sign). 17 INT j (two with sign, the higher first). */
    private static void signs() {
        for (int op = 2; op <= 8; op++) {
            due(op - 3, 1, op, 172);
        }
        due(0, 2, 9, 173);
        due(1, 2, 10, 173);
        int[] bytes = {0, 1, 127, 128, 129, 255};
        for (int high : bytes) {
            due((int) (byte) high, 1, 16, high, 172);
            for (int low : bytes) {
                due((int) (short) (high << 8 | low), 1, 17, high, low, 172);
            }
        }
    }

    private static void ofInts(int op, int a, int b, Object due) {
        Check.same(op + " of " + a + ", " + b, run(0x0101, 1, a, b, 21, 0, 21, 1, op, 172), due);
    }

    private static void ofLongs(int op, long a, long b, Object due) {
        Check.same(op + " of " + a + ", " + b, run(0x0202, 2, a, b, 22, 0, 22, 2, op, 173), due);
    }

    /** INTs .. wrap. */
    private static void intsWrap() {
        ofInts(96, MOST, 1, LEAST);
        ofInts(96, LEAST, -1, MOST);
        ofInts(96, LEAST, LEAST, 0);
        ofInts(96, MOST, 0, MOST);
        ofInts(100, LEAST, 1, MOST);
        ofInts(100, MOST, -1, LEAST);
        ofInts(100, 0, LEAST, LEAST);
        ofInts(104, MOST, 2, -2);
        ofInts(104, LEAST, -1, LEAST);
        ofInts(104, 65536, 65536, 0);
        ofInts(108, LEAST, -1, LEAST);
        ofInts(108, LEAST, 1, LEAST);
        ofInts(108, MOST, LEAST, 0);
        ofInts(108, -1, 2, 0);
        ofInts(108, -3, 2, -1);
    }

    /** .. and LONGs wrap; 133 INT to LONG, 136 LONG to INT. */
    private static void longsWrap() {
        ofLongs(97, Long.MAX_VALUE, 1, Long.MIN_VALUE);
        ofLongs(97, MOST, 1, MOST + 1L);
        ofLongs(101, Long.MIN_VALUE, 1, Long.MAX_VALUE);
        ofLongs(101, LEAST, 1, LEAST - 1L);
        ofLongs(105, Long.MIN_VALUE, -1, Long.MIN_VALUE);
        ofLongs(105, 1L << 32, 1L << 32, 0);
        ofLongs(105, 1L << 31, 2, 1L << 32);
        ofLongs(109, Long.MIN_VALUE, -1, Long.MIN_VALUE);
        ofLongs(109, -3, 2, -1);
        for (int one : new int[] {LEAST, -1, 0, 1, MOST}) {
            Check.same("133 of " + one, run(1, 2, one, 0, 21, 0, 133, 173), one);
        }
        for (long one : new long[] {Long.MIN_VALUE, LEAST - 1L, LEAST, -1, 0, MOST, MOST + 1L, 1L << 32, Long.MAX_VALUE}) {
            Check.same("136 of " + one, run(2, 1, one, 0, 22, 0, 136, 172), (int) one);
        }
    }

    /** A LONG takes two of the locals and two of the stack. */
    private static void longsMoved() {
        long one = 1L << 40 | 7;
        for (int local = 2; local <= 10; local++) {
            Check.same("local " + local, run(2, 2, one, 0, 22, 0, 55, local, 9, 55, 0, 22, local, 173), one);
        }
        due(1, 2, 10, 9, 97, 173);
        due(-1, 2, 9, 10, 101, 173);
        due(5, 1, 8, 9, 9, 88, 88, 172);
        due(5, 1, 8, 10, 92, 88, 88, 172);
        due(1, 1, 10, 9, 148, 172);
        Check.same("92", run(2, 2, one, 0, 22, 0, 92, 97, 173), 2 * one);
        Check.same("between INTs", run(2, 1, one, 0, 8, 22, 0, 5, 87, 136, 96, 172), 12);
    }

    /** The stack, twelve deep: what is on top is what came last. */
    private static void fullStack() {
        int[] ten = {4, 4, 4, 4, 4, 4, 4, 4, 4, 4};
        due(3, 1, join(ten, 8, 5, 100, 172));
        due(-1, 2, 9, 9, 9, 9, 9, 10, 101, 173);
        due(5, 1, join(ten, 4, 8, 172));
        Kit kit = kit();
        int callee = kit.made(0x0101, 1, 12, 2, join(ten, 21, 0, 21, 1, 100, 172));
        int caller = kit.made(0, 1, 12, 0, join(ten, 8, 5, 184, callee, 172));
        Check.same("in two calls", kit.run(caller), 3);
        int caught = kit.told(0, 1, 12, 0, join(join(ten, 4, 1, 191, 87), join(ten, 8, 5, 100, 172)));
        kit.framer.handler(caught, 12, 13, 13, 1);
        kit.verify(caught);
        Check.same("behind a handler", kit.run(caught), 3);
    }

    /** 132: local i (INT) gets one more byte (with sign) more. */
    private static void increase() {
        int[] starts = {LEAST, -1, 0, MOST};
        for (int start : starts) {
            for (int more : new int[] {0, 1, 127, 128, 255}) {
                Check.same("132 of " + start + " by " + more, run(1, 1, start, 0, 132, 0, more, 21, 0, 172),
                    start + (byte) more);
            }
        }
        Check.same("of the last local", run(1, 1, 7, 0, 21, 0, 54, 11, 132, 11, 1, 21, 11, 172), 8);
    }

    /** 148: two LONGs: INT -1, 0, 1. 153 .. 158: branch if INT is = 0, != 0, < 0, >= 0, > 0, <= 0. 159 .. 164: two INTs likewise. */
    private static void comparisons() {
        long[] longs = {Long.MIN_VALUE, LEAST, -1, 0, 1, 1L << 32, Long.MAX_VALUE};
        for (long a : longs) {
            for (long b : longs) {
                Check.same("148 of " + a + ", " + b, run(0x0202, 1, a, b, 22, 0, 22, 2, 148, 172), Long.compare(a, b));
            }
        }
        int[] ints = {LEAST, -1, 0, 1, MOST};
        for (int a : ints) {
            for (int b : ints) {
                boolean[] holds = {a == b, a != b, a < b, a >= b, a > b, a <= b};
                for (int k = 0; k < 6; k++) {
                    Check.same(159 + k + " of " + a + ", " + b,
                        run(0x0101, 1, a, b, 21, 0, 21, 1, 159 + k, 0, 5, 3, 172, 4, 172), holds[k] ? 1 : 0);
                }
            }
            boolean[] holds = {a == 0, a != 0, a < 0, a >= 0, a > 0, a <= 0};
            for (int k = 0; k < 6; k++) {
                Check.same(153 + k + " of " + a, run(1, 1, a, 0, 21, 0, 153 + k, 0, 5, 3, 172, 4, 172), holds[k] ? 1 : 0);
            }
        }
        int[][] pushed = {{1}, {3, 188, 10}, {187, 2, 89, 183, 2}};
        for (int a = 0; a < 3; a++) {
            due(a == 0 ? 1 : 0, 1, join(pushed[a], 198, 0, 5, 3, 172, 4, 172));
            due(a == 0 ? 0 : 1, 1, join(pushed[a], 199, 0, 5, 3, 172, 4, 172));
            for (int b = 0; b < 3; b++) {
                int[] both = join(pushed[a], pushed[b]);
                due(a == 0 && b == 0 ? 1 : 0, 1, join(both, 165, 0, 5, 3, 172, 4, 172));
                due(a == 0 && b == 0 ? 0 : 1, 1, join(both, 166, 0, 5, 3, 172, 4, 172));
            }
            due(1, 1, join(pushed[a], 89, 165, 0, 5, 3, 172, 4, 172));
            due(0, 1, join(pushed[a], 89, 166, 0, 5, 3, 172, 4, 172));
        }
    }

    /** Thrown in a run, as a new object of class 1: dividing by 0. */
    private static void dividingByZero() {
        for (int a : new int[] {LEAST, -1, 0, 1, MOST}) {
            ofInts(108, a, 0, "end 1 class 1");
            ofLongs(109, a, 0, "end 1 class 1");
        }
        ofLongs(109, 1, 1L << 32, 0);
        ofLongs(109, 1L << 32, 1L << 32, 1);
    }

    /** .. NULL where an object or array is wanted (191, too). */
    private static void nullWhereOneIsWanted() {
        thrownDue(1, 1, 3, 46, 172);
        thrownDue(2, 1, 3, 47, 173);
        thrownDue(32, 1, 3, 50, 176);
        thrownDue(0, 1, 3, 3, 79, 177);
        thrownDue(0, 1, 3, 9, 80, 177);
        thrownDue(0, 1, 3, 1, 83, 177);
        thrownDue(1, 1, 190, 172);
        thrownDue(0, 1, 191);
        thrownDue(0, 1, 192, 4, 191);
        for (int field = 0; field < 7; field++) {
            int[] value = field == 0 ? new int[] {3} : field == 1 ? new int[] {9} : new int[] {1};
            thrownDue(0, 1, 180, field, 177);
            thrownDue(0, join(join(new int[] {1}, value), 181, field, 177));
            due(0, 0, 178, 7 + field, 177);
            due(0, 0, join(value, 179, 7 + field, 177));
        }
        // an array of which one is NULL
        thrownDue(0, 4, 189, 2, 3, 50, 180, 0, 177);
        // where none is wanted
        due(-1, 34, 1, 192, 2, 176);
        due(0, 1, 1, 193, 0, 172);
        due(0, 0, 4, 189, 2, 3, 1, 83, 177);
    }

    /** .. a place outside an array. */
    private static void placesOfArrays() {
        int[] lengths = {0, 1, 2, 24};
        for (int length : lengths) {
            for (int k : new int[] {-128, -1, 0, length - 1, length, length + 1, 127}) {
                boolean isInside = k >= 0 && k < length;
                int[] get = {16, length, 188, 10, 16, k & 255};
                int[] longs = {16, length, 188, 11, 16, k & 255};
                int[] objects = {16, length, 189, 2, 16, k & 255};
                String thrown = "end 1 class 1";
                due(isInside ? "0" : thrown, 1, join(get, 46, 172));
                due(isInside ? "0" : thrown, 2, join(longs, 47, 173));
                due(isInside ? "-1" : thrown, 34, join(objects, 50, 176));
                due(isInside ? "0" : thrown, 0, join(get, 8, 79, 177));
                due(isInside ? "0" : thrown, 0, join(longs, 10, 80, 177));
                due(isInside ? "0" : thrown, 0, join(objects, 1, 83, 177));
            }
        }
        Check.same("the least place", run(1, 1, LEAST, 0, 4, 188, 10, 21, 0, 46, 172), "end 1 class 1");
        Check.same("the greatest place", run(1, 1, MOST, 0, 4, 188, 10, 21, 0, 46, 172), "end 1 class 1");
        // the first and the last of one array, and what stands beside it
        due(5, 1, 16, 24, 188, 10, 89, 16, 23, 8, 79, 16, 23, 46, 172);
        due(0, 1, 16, 24, 188, 10, 58, 0, 16, 24, 188, 10, 58, 1, 25, 0, 16, 23, 8, 79, 25, 1, 3, 46, 172);
        due(0, 1, 16, 24, 188, 10, 58, 0, 16, 24, 188, 10, 58, 1, 25, 1, 3, 8, 79, 25, 0, 16, 23, 46, 172);
    }

    /** .. a length below 0 or above 24. */
    private static void lengths() {
        for (int length : new int[] {LEAST, -1, 0, 1, 23, 24, 25, 150, MOST}) {
            String due = length < 0 || length > 24 ? "end 1 class 1" : String.valueOf(length);
            Check.same("INTs, " + length, run(1, 1, length, 0, 21, 0, 188, 10, 190, 172), due);
            Check.same("LONGs, " + length, run(1, 1, length, 0, 21, 0, 188, 11, 190, 172), due);
            Check.same("objects, " + length, run(1, 1, length, 0, 21, 0, 189, 6, 190, 172), due);
            String quiet = length < 0 || length > 24 ? "end 1 class 1" : "0";
            Check.same("INTs, " + length, run(1, 0, length, 0, 21, 0, 188, 10, 87, 177), quiet);
            Check.same("LONGs, " + length, run(1, 0, length, 0, 21, 0, 188, 11, 87, 177), quiet);
            Check.same("objects, " + length, run(1, 0, length, 0, 21, 0, 189, 6, 87, 177), quiet);
        }
    }

    /** Pushes one of a class, or of an array. */
    private static int[] pushed(int type) {
        return type == 5 ? new int[] {1} : type == 3 ? new int[] {3, 188, 10} : type == 4 ? new int[] {3, 188, 11}
            : type >= 64 ? new int[] {3, 189, type - 64} : new int[] {187, type - 32, 89, 183, type - 32};
    }

    /** .. a cast .. of an object that is not assignable. */
    private static void casts() {
        for (int k = 0; k < KINDS.length; k++) {
            for (int c = 0; c <= 6; c++) {
                int answer = KINDS[k] == 5 ? -1 : KINDS[k] < 32 || KINDS[k] >= 64 ? 32 : KINDS[k] - 32;
                due((OF[k] >> c & 1) == 1 ? String.valueOf(answer) : "end 1 class 1", 32 + c,
                    join(pushed(KINDS[k]), 192, c, 176));
            }
        }
    }

    /** .. or 83, of an object that is not assignable. */
    private static void whatIsPutIn() {
        // two objects, so that the second one is not the first by chance
        due(3, 34, 187, 0, 87, 187, 3, 89, 183, 3, 192, 2, 176);
        due(3, 32, 187, 0, 87, 4, 189, 2, 58, 0, 25, 0, 3, 187, 3, 89, 183, 3, 83, 25, 0, 3, 50, 176);
        for (int k = 0; k < KINDS.length; k++) {
            for (int c = 0; c <= 6; c++) {
                due((OF[k] >> c & 1) == 1 ? "0" : "end 1 class 1", 0,
                    join(join(new int[] {4, 189, c, 3}, pushed(KINDS[k])), 83, 177));
            }
        }
        // an array of 3 that is known as one of 2
        Kit kit = kit();
        int puts = kit.made(0x2142, 0, 3, 2, 25, 0, 3, 25, 1, 83, 177);
        Check.same("a fault", kit.fault(puts), "none");
        int good = kit.made(0, 0, 3, 0, 4, 189, 2, 187, 1, 89, 183, 1, 184, puts, 177);
        Check.same("1 among 2", kit.run(good), "end 1 class 1");
    }

    /** 193: reference; INT whether it is of class i (not NULL). */
    private static void isOfClass() {
        for (int k = 0; k < KINDS.length; k++) {
            for (int c = 0; c <= 6; c++) {
                boolean isOf = KINDS[k] != 5 && (OF[k] >> c & 1) == 1;
                due(isOf ? 1 : 0, 1, join(pushed(KINDS[k]), 193, c, 172));
            }
        }
    }

    /** Values 0, NULL at first in fields and arrays. */
    private static void valuesAtFirst() {
        for (int field = 0; field < 7; field++) {
            int[] from = {187, 2, 89, 183, 2, 180, field};
            int[] fixed = {178, 7 + field};
            int result = new int[] {1, 2, 3, 4, 34, 38, 66}[field];
            int leave = field == 0 ? 172 : field == 1 ? 173 : 176;
            due(field < 2 ? 0 : -1, result, join(from, leave));
            due(field < 2 ? 0 : -1, result, join(fixed, leave));
        }
        due(0, 1, 16, 24, 188, 10, 16, 23, 46, 172);
        due(0, 2, 16, 24, 188, 11, 16, 23, 47, 173);
        due(-1, 32, 16, 24, 189, 0, 16, 23, 50, 176);
    }

    /** Each begins with none; static fields with 0, NULL. */
    private static void eachRunBeginsAnew() {
        Kit kit = kit();
        int counts = kit.made(0, 1, 2, 0, 178, 7, 4, 96, 89, 179, 7, 172);
        int wide = kit.made(0, 2, 4, 0, 178, 8, 10, 97, 92, 179, 8, 173);
        int keeps = kit.made(0, 34, 3, 0, 178, 11, 187, 2, 89, 183, 2, 179, 11, 176);
        int array = kit.made(0, 1, 6, 1, 16, 24, 188, 10, 58, 0, 25, 0, 16, 23, 46, 25, 0, 16, 23, 8, 79, 172);
        int object = kit.made(0, 2, 6, 1, 187, 2, 89, 183, 2, 58, 0, 25, 0, 180, 1, 25, 0, 10, 181, 1, 173);
        for (int times = 0; times < 3; times++) {
            Check.same("a static INT", kit.run(counts), 1);
            Check.same("a static LONG", kit.run(wide), 1);
            Check.same("a static object", kit.run(keeps), -1);
            Check.same("made", kit.framer.end(3), 1);
            Check.same("an array", kit.run(array), 0);
            Check.same("an object", kit.run(object), 0);
            Check.same("made", kit.framer.end(3), 1);
        }
        int halves = kit.made(0, 0, 2, 0, 4, 179, 7, 3, 3, 108, 87, 177);
        Check.same("a run that throws", kit.run(halves), "end 1 class 1");
        Check.same("leaves nothing", kit.run(counts), 1);
        Check.same("a run without fuel", kit.run(halves, 0, 0, 3), "end 2");
        Check.same("leaves nothing", kit.run(counts), 1);
    }

    /** A kit with method 0: it throws one of a class at 6, and answers 1, 2, 3 from 7, 10, 13 on. */
    private static Kit throwing(int c) {
        Kit kit = kit();
        kit.told(0, 1, 2, 0, 0, 187, c, 89, 183, c, 191, 87, 4, 172, 87, 5, 172, 87, 6, 172);
        return kit;
    }

    private static String caught(int c, int... classes) {
        Kit kit = throwing(c);
        for (int k = 0; k < classes.length; k++) {
            kit.framer.handler(0, 6, 7, 7 + 3 * k, classes[k]);
        }
        kit.verify(0);
        return kit.fault(0).equals("none") ? kit.run(0) : "fault " + kit.fault(0);
    }

    /** It goes to the first handler of the method that covers the instruction, the class of which the object's SUBs. */
    private static void firstHandler() {
        Check.same("no handler", caught(4), "end 1 class 4");
        Check.same("its class", caught(4, 4), 1);
        Check.same("above its class", caught(4, 1), 1);
        Check.same("NONE", caught(4, MapFramer.NONE), 1);
        Check.same("below its class", caught(4, 5), "end 1 class 4");
        Check.same("far above its class", caught(5, 1), 1);
        Check.same("the second", caught(4, 5, 4), 2);
        Check.same("the third", caught(1, 5, 4, 1), 3);
        Check.same("the first of two", caught(5, 4, 5), 1);
        Check.same("the first of three", caught(5, 1, 4, 5), 1);
        Check.same("none of three", caught(1, 4, 5, 4), "end 1 class 1");
    }

    private static String covered(int from, int to) {
        Kit kit = throwing(4);
        kit.framer.handler(0, from, to, 7, 1);
        kit.verify(0);
        return kit.fault(0).equals("none") ? kit.run(0) : "fault " + kit.fault(0);
    }

    /** .. that covers the instruction: from <= place < to. */
    private static void handlerEdges() {
        Check.same("all but it", covered(0, 6), "end 1 class 4");
        Check.same("up to it", covered(0, 7), 1);
        Check.same("it alone", covered(6, 7), 1);
        Check.same("behind it", covered(7, 8), "end 1 class 4");
        Check.same("from it on", covered(6, 16), 1);
    }

    /** .. with the stack emptied but for it. */
    private static void stackEmptied() {
        Kit kit = kit();
        int deep = kit.told(0, 1, 12, 0, 9, 9, 9, 9, 9, 1, 191, 193, 1, 172);
        kit.framer.handler(deep, 6, 7, 7, 1);
        kit.verify(deep);
        Check.same("twelve deep", kit.run(deep), 1);
        Check.same("one was made", kit.framer.end(3), 1);
        int many = kit.told(0, 1, 12, 1, 3, 3, 3, 3, 3, 3, 3, 3, 3, 3, 3, 3, 108, 172, 58, 0, 4, 4, 4, 4, 4, 4, 4, 4, 4, 4,
            4, 4, 96, 172);
        kit.framer.handler(many, 12, 13, 14, 1);
        kit.verify(many);
        Check.same("a full stack again", kit.run(many), 2);
        int locals = kit.told(1, 1, 2, 2, 132, 0, 5, 1, 191, 87, 21, 0, 172);
        kit.framer.handler(locals, 3, 5, 5, 1);
        kit.verify(locals);
        Check.same("the locals stay", kit.run(locals, 3, 0, 99), 8);
    }

    /** .. else out of the method, to the one that called it, at its instruction. */
    private static void outOfTheMethod() {
        Kit kit = kit();
        int inner = kit.made(0, 0, 2, 0, 187, 5, 89, 183, 5, 191);
        int middle = kit.made(0, 0, 1, 0, 184, inner, 177);
        int outer = kit.told(0, 1, 2, 0, 0, 184, middle, 3, 172, 193, 5, 172);
        kit.framer.handler(outer, 1, 3, 5, 4);
        kit.verify(outer);
        Check.same("through two methods", kit.run(outer), 1);
        Check.same("fuel", kit.framer.end(1), 2 + 1 + 4 + 2);
        int early = kit.told(0, 1, 2, 0, 0, 184, middle, 3, 172, 193, 5, 172);
        kit.framer.handler(early, 0, 1, 5, 4);
        kit.framer.handler(early, 3, 5, 5, 4);
        kit.verify(early);
        Check.same("neither ahead of the call nor behind it", kit.run(early), "end 1 class 5");
        Check.same("fuel", kit.framer.end(1), 2 + 1 + 4);
        int after = kit.told(0, 1, 2, 0, 3, 184, middle, 172, 87, 184, middle, 3, 172);
        kit.framer.handler(after, 1, 3, 4, 1);
        kit.verify(after);
        Check.same("thrown once more, where nothing covers it", kit.run(after), "end 1 class 5");
        Check.same("made", kit.framer.end(3), 2);
    }

    /** FUEL: each instruction costs 1. */
    private static void eachCostsOne() {
        Kit kit = kit();
        int callee = kit.made(0, 1, 2, 0, 0, 3, 172);
        int caller = kit.made(0, 1, 2, 0, 0, 184, callee, 172);
        kit.run(caller);
        Check.same("a call and what it calls", kit.framer.end(1), 6);
        int branches = kit.made(0, 0, 2, 0, 3, 153, 0, 4, 0, 167, 0, 3, 177);
        kit.run(branches);
        Check.same("a branch, and what it passes over", kit.framer.end(1), 4);
        int caught = kit.told(0, 0, 2, 0, 1, 191, 87, 177);
        kit.framer.handler(caught, 0, 2, 2, 1);
        kit.verify(caught);
        kit.run(caught);
        Check.same("what is thrown and caught", kit.framer.end(1), 4);
    }

    /** Where there is none left it ends. */
    private static void noneLeft() {
        Kit kit = kit();
        int seven = kit.made(0, 1, 2, 0, 0, 0, 0, 0, 0, 8, 172);
        for (int fuel = 1; fuel <= 8; fuel++) {
            Check.same("fuel " + fuel, kit.run(seven, 0, 0, fuel), fuel < 7 ? "end 2" : "5");
            Check.same("used of " + fuel, kit.framer.end(1), Math.min(fuel, 7));
        }
        int throwing = kit.made(0, 0, 2, 0, 0, 1, 191);
        Check.same("none for what throws", kit.run(throwing, 0, 0, 2), "end 2");
        Check.same("made", kit.framer.end(3), 0);
        Check.same("thrown by the last of it", kit.run(throwing, 0, 0, 3), "end 1 class 1");
        int caught = kit.told(0, 0, 2, 0, 1, 191, 87, 177);
        kit.framer.handler(caught, 0, 2, 2, 1);
        kit.verify(caught);
        Check.same("none for the handler", kit.run(caught, 0, 0, 2), "end 2");
        Check.same("made", kit.framer.end(3), 1);
        Check.same("nothing thrown out", kit.framer.end(2), -1);
        int forever = kit.made(0, 0, 0, 0, 167, 0, 0);
        Check.same("the most", kit.run(forever, 0, 0, 20000), "end 2");
        Check.same("used", kit.framer.end(1), 20000);
        int calls = kit.made(0, 0, 0, 0, 184, 4, 177);
        Check.same("none for the 25th call", kit.run(calls, 0, 0, 23), "end 2");
        Check.same("just for it", kit.run(calls, 0, 0, 24), "end 3");
        int makes = kit.made(0, 0, 1, 0, 187, 0, 87, 167, 255, 253);
        Check.same("none for the 151st object", kit.run(makes, 0, 0, 450), "end 2");
        Check.same("just for it", kit.run(makes, 0, 0, 451), "end 4");
    }

    /** Calls are at most 24 deep (the first one is 1). */
    private static void callsDeep() {
        Kit kit = kit();
        int deep = kit.made(1, 1, 2, 1, 21, 0, 154, 0, 5, 3, 172, 132, 0, 255, 21, 0, 184, 0, 4, 96, 172);
        Check.same("22 more", kit.run(deep, 22, 0, 9999), 22);
        Check.same("23 more", kit.run(deep, 23, 0, 9999), 23);
        Check.same("24 more", kit.run(deep, 24, 0, 9999), "end 3");
        Check.same("25 more", kit.run(deep, 25, 0, 9999), "end 3");
        Check.same("used", kit.framer.end(1), 24 * 5);
        Check.same("nothing thrown", kit.framer.end(2), -1);
        Check.same("23 more once more", kit.run(deep, 23, 0, 9999), 23);
        int often = kit.made(1, 1, 3, 1, 16, 23, 184, 0, 87, 132, 0, 255, 21, 0, 154, 255, 246, 3, 172);
        Check.same("one deeper by its caller", kit.run(often, 1, 0, 9999), "end 3");
        int many = kit.made(1, 1, 3, 1, 16, 22, 184, 0, 87, 132, 0, 255, 21, 0, 154, 255, 246, 3, 172);
        Check.same("those that are over do not count", kit.run(many, 30, 0, 20000), 0);
        // a handler does not catch it
        Kit other = kit();
        int caught = other.told(0, 0, 1, 0, 184, 0, 177, 87, 177);
        other.framer.handler(caught, 0, 3, 3, 1);
        other.verify(caught);
        Check.same("a handler", other.run(caught), "end 3");
        // those that throw are over, too
        int throwing = other.made(0, 0, 1, 0, 1, 191);
        int loop = other.told(1, 1, 1, 1, 184, throwing, 4, 172, 87, 132, 0, 255, 21, 0, 154, 255, 246, 3, 172);
        other.framer.handler(loop, 0, 2, 4, 1);
        other.verify(loop);
        Check.same("those that threw do not count", other.run(loop, 100, 0, 9999), 0);
        Check.same("made", other.framer.end(3), 100);
    }

    /** Objects and arrays at most 150 in a run. */
    private static void objectsMade() {
        int[][] makes = {{187, 2, 87}, {3, 188, 10, 87}, {3, 188, 11, 87}, {3, 189, 6, 87}, {16, 24, 189, 2, 87}};
        for (int[] make : makes) {
            Kit kit = kit();
            int[] code = join(make, 132, 0, 255, 21, 0, 154, 255, 251 - make.length, 3, 172);
            int method = kit.made(1, 1, 2, 1, code);
            for (int many = 149; many <= 151; many++) {
                Check.same(many + " by " + Arrays.toString(make), kit.run(method, many, 0, 9999),
                    many > 150 ? "end 4" : "0");
                Check.same("made", kit.framer.end(3), Math.min(150, many));
                Check.same("nothing thrown", kit.framer.end(2), -1);
            }
            Check.same("begins anew", kit.run(method, 150, 0, 9999), 0);
        }
        // a handler does not catch it
        Kit kit = kit();
        int caught = kit.told(0, 0, 1, 0, 187, 0, 87, 167, 255, 253, 87, 177);
        kit.framer.handler(caught, 0, 6, 6, 1);
        kit.verify(caught);
        Check.same("a handler", kit.run(caught), "end 4");
        // the length is looked at first: what it throws is an object, too
        int wrong = kit.made(1, 1, 2, 1, 187, 0, 87, 132, 0, 255, 21, 0, 154, 255, 248, 2, 188, 10, 190, 172);
        Check.same("the 150th is thrown", kit.run(wrong, 149, 0, 9999), "end 1 class 1");
        Check.same("the 151st can't be", kit.run(wrong, 150, 0, 9999), "end 4");
    }

    /** Thrown in a run, as a new object: it is one of the 150. */
    private static void objectsThrown() {
        Kit kit = kit();
        int loop = kit.told(1, 1, 2, 1, 3, 3, 108, 172, 87, 132, 0, 255, 21, 0, 154, 255, 246, 3, 172);
        kit.framer.handler(loop, 2, 3, 4, 1);
        kit.verify(loop);
        Check.same("149 thrown", kit.run(loop, 149, 0, 9999), 0);
        Check.same("150 thrown", kit.run(loop, 150, 0, 9999), 0);
        Check.same("made", kit.framer.end(3), 150);
        Check.same("151 thrown", kit.run(loop, 151, 0, 9999), "end 4");
        Check.same("made", kit.framer.end(3), 150);
        Check.same("nothing thrown out", kit.framer.end(2), -1);
        int own = kit.told(1, 1, 2, 2, 187, 4, 89, 183, 4, 58, 1, 25, 1, 191, 87, 132, 0, 255, 21, 0, 154, 255, 247, 3, 172);
        kit.framer.handler(own, 7, 10, 10, 1);
        kit.verify(own);
        Check.same("one thrown again and again is one", kit.run(own, 500, 0, 9999), 0);
        Check.same("made", kit.framer.end(3), 1);
    }
}
