/** Promises 8 and 13: the types at each instruction. Classes: 2 under 0, 3 and 4 under 2, 5 under 1, 6, 7 interfaces. */
final class FlowTest {
    public static void main(String[] args) {
        numbers();
        refusals();
        longs();
        merges();
        assignable();
        handlers();
        begin();
        loops();
        Check.end("FlowTest");
    }

    private static Kit kit() {
        Kit kit = new Kit();
        kit.framer.cls(0, false);
        kit.framer.cls(2, false);
        kit.framer.cls(2, false);
        kit.framer.cls(1, false);
        kit.framer.cls(0, true);
        kit.framer.cls(0, true);
        return kit;
    }

    private static void numbers() {
        Kit kit = kit();
        int method = kit.made(Kit.pack(2, 1, 34, 66), 0, 12, 7,
            1, 4, 10, 3, 188, 10, 3, 188, 11, 3, 189, 6, 187, 2, 0, 177);
        Check.same("fault", kit.fault(method), "none");
        Check.same("arguments", kit.types(method, 0), "2 0 1 34 66 0 0 |");
        Check.same("all kinds", kit.types(method, 15), "2 0 1 34 66 0 0 | 5 1 2 3 4 70 1012");
        Check.same("a LONG is one place of the stack", kit.framer.typeAt(method, 15, 103), 3);
    }

    private static void refusals() {
        Kit kit = kit();
        MapFramer x = kit.framer;
        int told = kit.told(1, 0, 1, 2, 16, 3, 87, 177, 0, 177);
        Check.outOfBounds("not verified", () -> x.typeAt(told, 0, 0));
        x.verify(told);
        Check.same("local 0", x.typeAt(told, 2, 0), 1);
        Check.same("local 1", x.typeAt(told, 2, 1), 0);
        Check.same("stack", x.typeAt(told, 2, 100), 1);
        Check.outOfBounds("local 2", () -> x.typeAt(told, 2, 2));
        Check.outOfBounds("local 99", () -> x.typeAt(told, 2, 99));
        Check.outOfBounds("local -1", () -> x.typeAt(told, 2, -1));
        Check.outOfBounds("stack 1", () -> x.typeAt(told, 2, 101));
        Check.outOfBounds("the greatest", () -> x.typeAt(told, 2, Integer.MAX_VALUE));
        Check.outOfBounds("no beginning", () -> x.typeAt(told, 1, 0));
        Check.outOfBounds("dead", () -> x.typeAt(told, 4, 0));
        Check.outOfBounds("dead", () -> x.typeAt(told, 4, 100));
        Check.outOfBounds("the end", () -> x.typeAt(told, 6, 0));
        Check.outOfBounds("place -1", () -> x.typeAt(told, -1, 0));
        Check.outOfBounds("no method", () -> x.typeAt(1, 0, 0));
        Check.outOfBounds("no method", () -> x.typeAt(-1, 0, 0));
        int bad = kit.made(1, 0, 1, 2, 0);
        Check.outOfBounds("a fault", () -> x.typeAt(bad, 0, 0));
    }

    private static void longs() {
        Kit kit = kit();
        int method = kit.made(0, 0, 4, 4, 9, 55, 1, 3, 54, 2, 9, 55, 0, 9, 55, 2, 1, 58, 1, 177);
        Check.same("a LONG", kit.types(method, 3), "0 2 0 0 |");
        Check.same("its second local is lost", kit.types(method, 6), "0 0 1 0 |");
        Check.same("ahead of one", kit.types(method, 9), "2 0 1 0 |");
        Check.same("behind one", kit.types(method, 12), "2 0 2 0 |");
        Check.same("the second of the first", kit.types(method, 13), "2 0 2 0 | 5");
        Check.same("the first is TOP", kit.types(method, 15), "0 5 2 0 |");
    }

    /** Code that brings one of two types, by casts or arrays, into local 1 and onto the stack. */
    private static String merged(int[] a, int[] b) {
        Kit kit = kit();
        int[] code = new int[10 + a.length + b.length];
        int at = 0;
        code[at++] = 21;
        code[at++] = 0;
        code[at++] = 153;
        code[at++] = 0;
        code[at++] = 6 + a.length;
        for (int one : a) {
            code[at++] = one;
        }
        code[at++] = 167;
        code[at++] = 0;
        code[at++] = 3 + b.length;
        for (int one : b) {
            code[at++] = one;
        }
        int end = at;
        code[at++] = 58;
        code[at++] = 1;
        int method = kit.made(1, 0, 2, 2, java.util.Arrays.copyOf(code, at));
        if (!kit.fault(method).equals("8 at " + end)) {
            return kit.fault(method).equals("9 at " + end) ? "none" : kit.fault(method);
        }
        code[at - 2] = 0;
        code[at - 1] = 177;
        return kit.types(kit.made(1, 0, 2, 2, java.util.Arrays.copyOf(code, at)), end);
    }

    private static int[] object(int c) {
        return new int[] {1, 192, c};
    }

    private static int[] array(int c) {
        return new int[] {3, 189, c};
    }

    private static void mergeDue(String due, int[] a, int[] b) {
        String what = java.util.Arrays.toString(a) + " and " + java.util.Arrays.toString(b);
        Check.same(what, merged(a, b), due);
        Check.same(what + " turned", merged(b, a), due);
    }

    private static void merges() {
        int[] nothing = {1};
        int[] ints = {3, 188, 10};
        int[] longs = {3, 188, 11};
        mergeDue("1 0 | 5", nothing, nothing);
        mergeDue("1 0 | 35", nothing, object(3));
        mergeDue("1 0 | 67", nothing, array(3));
        mergeDue("1 0 | 4", nothing, longs);
        mergeDue("1 0 | 35", object(3), object(3));
        mergeDue("1 0 | 34", object(3), object(4));
        mergeDue("1 0 | 34", object(3), object(2));
        mergeDue("1 0 | 32", object(3), object(5));
        mergeDue("1 0 | 33", object(1), object(5));
        mergeDue("1 0 | 32", object(3), object(6));
        mergeDue("1 0 | 32", object(6), object(7));
        mergeDue("1 0 | 38", object(6), object(6));
        mergeDue("1 0 | 32", object(0), object(6));
        mergeDue("1 0 | 66", array(3), array(4));
        mergeDue("1 0 | 64", array(3), array(5));
        mergeDue("1 0 | 64", array(6), array(3));
        mergeDue("1 0 | 70", array(6), array(6));
        mergeDue("1 0 | 32", ints, longs);
        mergeDue("1 0 | 32", ints, array(0));
        mergeDue("1 0 | 32", object(3), array(3));
        mergeDue("1 0 | 32", object(6), ints);
        mergeDue("1 0 | 3", ints, ints);
        mergeDue("none", nothing, new int[] {187, 0});
        mergeDue("none", new int[] {187, 0}, new int[] {187, 0});
        mergeDue("none", object(0), new int[] {3});
        mergeDue("none", new int[] {9, 136}, ints);
    }

    /** Whether a static field takes what the code pushes. */
    private static boolean isTaken(int type, int... code) {
        Kit kit = kit();
        kit.framer.field(0, type, true);
        int[] all = java.util.Arrays.copyOf(code, code.length + 3);
        all[code.length] = 179;
        all[code.length + 2] = 177;
        return kit.fault(kit.made(0, 0, 2, 0, all)).equals("none");
    }

    private static void assignable() {
        int[] references = {3, 4, 32, 33, 34, 35, 36, 37, 38, 39, 64, 65, 66, 67, 68, 69, 70, 71};
        for (int type : references) {
            Check.same("NULL to " + type, isTaken(type, 1), true);
            Check.same("INT to " + type, isTaken(type, 3), false);
            Check.same("UNINITIALIZED to " + type, isTaken(type, 187, 0), false);
        }
        taken(object(3), 32, 34, 35, 38, 39);
        taken(object(2), 32, 34, 38, 39);
        taken(object(0), 32, 38, 39);
        taken(object(5), 32, 33, 37, 38, 39);
        taken(object(6), 32, 38, 39);
        taken(array(3), 32, 38, 39, 64, 66, 67, 70, 71);
        taken(array(6), 32, 38, 39, 64, 70, 71);
        taken(array(0), 32, 38, 39, 64, 70, 71);
        taken(new int[] {3, 188, 10}, 3, 32, 38, 39);
        taken(new int[] {3, 188, 11}, 4, 32, 38, 39);
        Check.same("INT to INT", isTaken(1, 3), true);
        Check.same("LONG to INT", isTaken(1, 9), false);
        Check.same("INT to LONG", isTaken(2, 3), false);
        Check.same("LONG to LONG", isTaken(2, 9), true);
        Check.same("NULL to INT", isTaken(1, 1), false);
    }

    private static void taken(int[] code, int... types) {
        for (int type : new int[] {1, 2, 3, 4, 32, 33, 34, 35, 36, 37, 38, 39, 64, 65, 66, 67, 68, 69, 70, 71}) {
            boolean due = false;
            for (int one : types) {
                due = due || one == type;
            }
            Check.same(java.util.Arrays.toString(code) + " to " + type, isTaken(type, code), due);
        }
    }

    private static void handlers() {
        Kit kit = kit();
        int method = kit.told(Kit.pack(1), 0, 2, 3, 3, 54, 1, 1, 58, 1, 9, 55, 1, 177, 87, 177);
        kit.framer.handler(method, 1, 3, 10, 5);
        kit.framer.verify(method);
        Check.same("locals ahead of 54 and behind it", kit.types(method, 10), "1 0 0 | 37");
        int later = kit.told(Kit.pack(1), 0, 2, 3, 3, 54, 1, 1, 58, 1, 9, 55, 1, 177, 87, 177);
        kit.framer.handler(later, 3, 4, 10, MapFramer.NONE);
        kit.framer.verify(later);
        Check.same("locals ahead of 1", kit.types(later, 10), "1 1 0 | 33");
        int two = kit.told(Kit.pack(1), 0, 2, 3, 1, 58, 1, 1, 192, 2, 58, 1, 177, 87, 177);
        kit.framer.handler(two, 6, 8, 9, 1);
        kit.framer.verify(two);
        Check.same("NULL and an object", kit.types(two, 9), "1 34 0 | 33");
        int fresh = kit.told(0, 0, 2, 1, 187, 0, 58, 0, 25, 0, 183, 0, 177, 87, 177);
        kit.framer.handler(fresh, 6, 8, 9, 1);
        kit.framer.verify(fresh);
        Check.same("183 gives the locals ahead of it", kit.types(fresh, 9), "1000 | 33");
        int both = kit.told(0, 0, 2, 0, 177, 87, 177);
        kit.framer.handler(both, 0, 1, 1, 1);
        kit.framer.handler(both, 0, 1, 1, 5);
        kit.framer.verify(both);
        Check.same("two handlers at one place", kit.types(both, 1), "| 33");
    }

    private static void begin() {
        Kit kit = kit();
        int method = kit.made(0, 0, 4, 2, 187, 3, 58, 0, 187, 3, 89, 25, 0, 89, 183, 3, 177);
        Check.same("ahead", kit.types(method, 10), "1000 0 | 1004 1004 1000 1000");
        Check.same("all of the same", kit.types(method, 12), "35 0 | 1004 1004 35");
    }

    private static void loops() {
        Kit kit = kit();
        int good = kit.made(Kit.pack(1, 35, 36), 0, 2, 4,
            1, 58, 3, 25, 3, 198, 0, 7, 25, 2, 58, 3, 25, 1, 58, 3, 21, 0, 154, 255, 241, 177);
        Check.same("the loop's head", kit.types(good, 3), "1 35 36 35 |");
        int wide = kit.made(Kit.pack(1, 35, 36), 0, 2, 4,
            1, 58, 3, 21, 0, 153, 0, 10, 25, 2, 58, 3, 167, 255, 247, 25, 1, 58, 3, 167, 255, 240);
        Check.same("the loop's head", kit.types(wide, 3), "1 35 36 34 |");
    }
}
