/** Promises 14 and 15: what code does when it runs, and how runs end. */
final class RunTest {
    public static void main(String[] args) {
        refusals();
        calledMethods();
        arguments();
        results();
        constants();
        arithmetic();
        comparisons();
        stackMoves();
        fields();
        arrays();
        casts();
        thrown();
        handlers();
        fuel();
        calls();
        objects();
        Check.end("RunTest");
    }

    private static Kit kit() {
        Kit kit = new Kit();
        kit.framer.cls(0, false);
        kit.framer.cls(2, false);
        kit.framer.cls(1, false);
        kit.framer.cls(0, true);
        return kit;
    }

    /** What a method without arguments answers; classes 2, 3 under 2, 4 under 1, interface 5. */
    private static String run(int result, int... code) {
        Kit kit = kit();
        int method = kit.made(0, result, 12, 4, code);
        return kit.fault(method).equals("none") ? kit.run(method) : "fault " + kit.fault(method);
    }

    private static void due(String answer, int result, int... code) {
        Check.same("run of " + java.util.Arrays.toString(code), run(result, code), answer);
    }

    private static void refusals() {
        Kit kit = kit();
        MapFramer x = kit.framer;
        Check.illegalArgument("no method", () -> x.run(0, 0, 0, 1));
        Check.illegalArgument("no method", () -> x.run(-1, 0, 0, 1));
        x.method(0, 0);
        Check.illegalArgument("no code", () -> x.run(0, 0, 0, 1));
        kit.code(0, 0, 0, 177);
        Check.illegalArgument("not verified", () -> x.run(0, 0, 0, 1));
        x.verify(0);
        Check.same("no run yet", x.end(0), -1);
        Check.illegalArgument("fuel 0", () -> x.run(0, 0, 0, 0));
        Check.illegalArgument("fuel -1", () -> x.run(0, 0, 0, -1));
        Check.illegalArgument("fuel 20001", () -> x.run(0, 0, 0, 20001));
        for (int which = -1; which <= 4; which++) {
            Check.same("no run yet", x.end(which), -1);
        }
        Check.same("fuel 1", x.run(0, 0, 0, 1), 0);
        Check.same("fuel 20000", x.run(0, 0, 0, 20000), 0);
        Check.same("end 0", x.end(0), 0);
        Check.same("end 1", x.end(1), 1);
        Check.same("end 2", x.end(2), -1);
        Check.same("end 3", x.end(3), 0);
        Check.same("end 4", x.end(4), -1);
        Check.same("end -1", x.end(-1), -1);
        int bad = kit.made(0, 0, 0, 0, 0);
        Check.illegalArgument("a fault", () -> x.run(bad, 0, 0, 1));
        int takes = kit.made(Kit.pack(1, 32), 0, 0, 2, 177);
        Check.illegalArgument("takes a reference", () -> x.run(takes, 0, 0, 1));
        int array = kit.made(Kit.pack(3), 0, 0, 2, 177);
        Check.illegalArgument("takes an array", () -> x.run(array, 0, 0, 1));
        Check.same("the latest run that was one", x.end(1), 1);
    }

    private static void calledMethods() {
        Kit kit = kit();
        MapFramer x = kit.framer;
        x.method(0, 0);
        x.method(0, 0);
        x.method(0, 0);
        kit.code(2, 0, 0, 177);
        kit.code(1, 0, 0, 184, 2, 177);
        kit.code(0, 0, 0, 184, 1, 177);
        x.verify(0);
        Check.illegalState("1 was not verified", () -> x.run(0, 0, 0, 9));
        x.verify(1);
        Check.illegalState("2 was not verified", () -> x.run(0, 0, 0, 9));
        Check.illegalArgument("fuel comes first", () -> x.run(0, 0, 0, 0));
        x.verify(2);
        Check.same("all were", x.run(0, 0, 0, 9), 0);
        Check.same("fuel of all", x.end(1), 5);
        int bad = kit.told(0, 0, 0, 0, 0);
        int calls = kit.made(0, 0, 1, 0, 3, 153, 0, 5, 184, bad, 177);
        kit.verify(bad);
        Check.illegalState("a fault, though it is not come to", () -> x.run(calls, 0, 0, 9));
        Check.same("that is no run", x.end(1), 5);
        int right = kit.made(1, 1, 2, 1, 21, 0, 154, 0, 5, 3, 172, 132, 0, 255, 21, 0, 184, 5, 4, 96, 172);
        Check.same("of itself", x.run(right, 7, 0, 999), 7);
    }

    private static void arguments() {
        Kit kit = kit();
        int ints = kit.made(Kit.pack(1, 1, 1, 1), 1, 3, 4,
            21, 0, 21, 1, 16, 10, 104, 96, 21, 2, 96, 21, 3, 96, 172);
        Check.same("INTs", kit.run(ints, 3, 4, 99), "43");
        Check.same("an INT of a LONG", kit.run(ints, 0x700000005L, 0x100000000L, 99), "5");
        Check.same("an INT of a LONG", kit.run(ints, 0x80000000L, 0, 99), "-2147483648");
        int longs = kit.made(Kit.pack(2, 2, 2), 2, 4, 6, 22, 0, 22, 2, 101, 22, 4, 97, 173);
        Check.same("LONGs", kit.run(longs, Long.MIN_VALUE, 1, 99), String.valueOf(Long.MAX_VALUE));
        int mixed = kit.made(Kit.pack(1, 2), 2, 4, 3, 22, 1, 21, 0, 133, 101, 173);
        Check.same("INT and LONG", kit.run(mixed, 1, 1L << 40, 99), String.valueOf((1L << 40) - 1));
    }

    private static void results() {
        due("0", 0, 177);
        due("-1", 1, 2, 172);
        due("1", 2, 10, 173);
        due("-1", 32, 1, 176);
        due("2", 32, 187, 2, 89, 183, 2, 176);
        due("0", 32, 187, 0, 89, 183, 0, 176);
        due("1", 37, 187, 1, 89, 183, 1, 176);
        due("32", 32, 3, 189, 2, 176);
        due("32", 3, 3, 188, 10, 176);
        due("32", 4, 3, 188, 11, 176);
    }

    private static void constants() {
        for (int op = 2; op <= 8; op++) {
            due(String.valueOf(op - 3), 1, op, 172);
        }
        due("0", 2, 9, 173);
        due("127", 1, 16, 127, 172);
        due("-128", 1, 16, 128, 172);
        due("32767", 1, 17, 127, 255, 172);
        due("-32768", 1, 17, 128, 0, 172);
        due("258", 1, 17, 1, 2, 172);
        due("-3", 1, 3, 54, 2, 132, 2, 253, 21, 2, 172);
    }

    private static String two(int kind, int op, long a, long b) {
        Kit kit = kit();
        int method = kind == 1 ? kit.made(Kit.pack(1, 1), 1, 4, 4, 21, 0, 21, 1, op, 172)
            : kit.made(Kit.pack(2, 2), op == 148 ? 1 : 2, 4, 4, 22, 0, 22, 2, op, op == 148 ? 172 : 173);
        return kit.run(method, a, b, 99);
    }

    private static void arithmetic() {
        int most = Integer.MAX_VALUE;
        int least = Integer.MIN_VALUE;
        Check.same("add", two(1, 96, most, 1), least);
        Check.same("subtract", two(1, 100, least, 1), most);
        Check.same("multiply", two(1, 104, most, most), 1);
        Check.same("divide", two(1, 108, -7, 2), -3);
        Check.same("divide", two(1, 108, least, -1), least);
        Check.same("divide by 0", two(1, 108, 1, 0), "end 1 class 1");
        Check.same("add", two(2, 97, Long.MAX_VALUE, 1), Long.MIN_VALUE);
        Check.same("subtract", two(2, 101, 5, 7), -2);
        Check.same("multiply", two(2, 105, 1L << 40, 1L << 30), 0);
        Check.same("divide", two(2, 109, 7, -2), -3);
        Check.same("divide", two(2, 109, Long.MIN_VALUE, -1), Long.MIN_VALUE);
        Check.same("divide by 0", two(2, 109, 0, 0), "end 1 class 1");
        Check.same("compare", two(2, 148, 1, 2), -1);
        Check.same("compare", two(2, 148, Long.MIN_VALUE, Long.MAX_VALUE), -1);
        Check.same("compare", two(2, 148, 2, 2), 0);
        Check.same("compare", two(2, 148, 3, 2), 1);
        Kit kit = kit();
        int narrow = kit.made(2, 1, 2, 2, 22, 0, 136, 172);
        Check.same("LONG to INT", kit.run(narrow, 0x1FFFFFFFFL, 0, 9), -1);
        int wide = kit.made(1, 2, 2, 1, 21, 0, 133, 173);
        Check.same("INT to LONG", kit.run(wide, -5, 0, 9), -5);
        int more = kit.made(1, 1, 2, 1, 132, 0, 127, 21, 0, 172);
        Check.same("an INT wraps", kit.run(more, most, 0, 9), least + 126);
    }

    private static void comparisons() {
        int[][] pairs = {{-1, 0}, {0, 0}, {1, 0}, {Integer.MIN_VALUE, Integer.MAX_VALUE}, {5, 5}, {6, 5}};
        for (int[] pair : pairs) {
            int a = pair[0];
            int b = pair[1];
            boolean[] due = {a == b, a != b, a < b, a >= b, a > b, a <= b};
            for (int k = 0; k < 6; k++) {
                Kit kit = kit();
                int both = kit.made(Kit.pack(1, 1), 1, 2, 2, 21, 0, 21, 1, 159 + k, 0, 5, 3, 172, 4, 172);
                Check.same(159 + k + " of " + a + " and " + b, kit.run(both, a, b, 9), due[k] ? 1 : 0);
                int zero = kit.made(1, 1, 2, 1, 21, 0, 153 + k, 0, 5, 3, 172, 4, 172);
                if (b == 0) {
                    Check.same(153 + k + " of " + a, kit.run(zero, a, b, 9), due[k] ? 1 : 0);
                }
            }
        }
        due("1", 1, 1, 198, 0, 5, 3, 172, 4, 172);
        due("0", 1, 1, 199, 0, 5, 3, 172, 4, 172);
        due("0", 1, 3, 188, 10, 198, 0, 5, 3, 172, 4, 172);
        due("1", 1, 3, 188, 10, 199, 0, 5, 3, 172, 4, 172);
        due("1", 1, 3, 188, 10, 89, 165, 0, 5, 3, 172, 4, 172);
        due("0", 1, 3, 188, 10, 89, 166, 0, 5, 3, 172, 4, 172);
        due("0", 1, 3, 188, 10, 3, 188, 10, 165, 0, 5, 3, 172, 4, 172);
        due("1", 1, 3, 188, 10, 1, 166, 0, 5, 3, 172, 4, 172);
        due("1", 1, 1, 1, 165, 0, 5, 3, 172, 4, 172);
    }

    private static void stackMoves() {
        due("2", 1, 5, 6, 87, 172);
        due("2", 1, 5, 6, 7, 88, 172);
        due("2", 1, 5, 10, 88, 172);
        due("4", 1, 5, 89, 96, 172);
        // 2 3 becomes 3 2 3: 3 - (2 - 3)
        due("4", 1, 5, 6, 90, 100, 100, 172);
        // 2 3 becomes 2 3 2 3: 2 - (3 - (2 - 3))
        due("-2", 1, 5, 6, 92, 100, 100, 100, 172);
        due("2", 2, 10, 92, 97, 173);
        due("1", 1, 5, 6, 95, 100, 172);
    }

    private static void fields() {
        Kit kit = kit();
        MapFramer x = kit.framer;
        x.field(2, 1, false);
        x.field(3, 2, false);
        x.field(0, 2, true);
        x.field(0, 32, true);
        x.field(2, 34, false);
        int fresh = kit.made(0, 2, 6, 2, 187, 3, 89, 183, 3, 58, 0, 25, 0, 8, 181, 0, 25, 0, 10, 181, 1,
            25, 0, 180, 0, 133, 25, 0, 180, 1, 97, 178, 2, 97, 173);
        Check.same("fields", kit.run(fresh), "6");
        int keeps = kit.made(0, 2, 6, 2, 178, 2, 10, 97, 179, 2, 178, 2, 173);
        Check.same("static", kit.run(keeps), "1");
        Check.same("static fields begin anew", kit.run(keeps), "1");
        int reference = kit.made(0, 1, 6, 2, 178, 3, 199, 0, 5, 3, 172, 4, 172);
        Check.same("NULL at first", kit.run(reference), "0");
        int own = kit.made(0, 32, 6, 2, 187, 3, 89, 183, 3, 58, 0, 25, 0, 25, 0, 181, 4, 25, 0, 180, 4, 179, 3,
            178, 3, 176);
        Check.same("an object in a field", kit.run(own), "3");
        int none = kit.made(0, 1, 6, 2, 1, 180, 0, 172);
        Check.same("a field of NULL", kit.run(none), "end 1 class 1");
        int put = kit.made(0, 0, 6, 2, 1, 3, 181, 0, 177);
        Check.same("a field of NULL is set", kit.run(put), "end 1 class 1");
        int apart = kit.made(0, 1, 6, 2, 187, 2, 89, 183, 2, 8, 181, 0, 187, 2, 89, 183, 2, 180, 0, 172);
        Check.same("each object has its own", kit.run(apart), "0");
    }

    private static void arrays() {
        due("5", 1, 4, 188, 10, 58, 0, 25, 0, 3, 8, 79, 25, 0, 3, 46, 172);
        due("1", 2, 4, 188, 11, 58, 0, 25, 0, 3, 10, 80, 25, 0, 3, 47, 173);
        due("3", 32, 4, 189, 2, 58, 0, 25, 0, 3, 187, 3, 89, 183, 3, 83, 25, 0, 3, 50, 176);
        due("-1", 32, 4, 189, 2, 3, 50, 176);
        due("0", 1, 5, 188, 10, 4, 46, 172);
        due("end 1 class 1", 1, 5, 188, 10, 5, 46, 172);
        due("end 1 class 1", 1, 5, 188, 10, 2, 46, 172);
        due("end 1 class 1", 1, 3, 188, 10, 3, 46, 172);
        due("end 1 class 1", 1, 1, 3, 46, 172);
        due("end 1 class 1", 2, 1, 3, 47, 173);
        due("end 1 class 1", 32, 1, 3, 50, 176);
        due("end 1 class 1", 0, 1, 3, 3, 79, 177);
        due("end 1 class 1", 0, 1, 3, 9, 80, 177);
        due("end 1 class 1", 0, 1, 3, 1, 83, 177);
        due("end 1 class 1", 0, 4, 188, 11, 4, 9, 80, 177);
        due("end 1 class 1", 1, 1, 190, 172);
        due("24", 1, 16, 24, 188, 10, 190, 172);
        due("end 1 class 1", 1, 16, 25, 188, 10, 190, 172);
        due("end 1 class 1", 1, 2, 189, 2, 190, 172);
        due("0", 1, 3, 189, 2, 190, 172);
        // what may be put in an array of 3 that is known as one of 2
        due("end 1 class 1", 0, 4, 189, 3, 3, 187, 2, 89, 183, 2, 83, 177);
        due("0", 0, 4, 189, 2, 3, 187, 3, 89, 183, 3, 83, 177);
        due("0", 0, 4, 189, 3, 3, 1, 83, 177);
        due("0", 0, 4, 189, 5, 3, 4, 188, 10, 83, 177);
        due("0", 0, 4, 189, 0, 3, 4, 189, 3, 83, 177);
        due("end 1 class 1", 0, 4, 189, 2, 3, 4, 189, 2, 83, 177);
    }

    private static void casts() {
        due("3", 34, 187, 3, 89, 183, 3, 192, 2, 176);
        due("3", 32, 187, 3, 89, 183, 3, 192, 5, 176);
        due("end 1 class 1", 35, 187, 2, 89, 183, 2, 192, 3, 176);
        due("-1", 35, 1, 192, 3, 176);
        due("32", 37, 3, 188, 10, 192, 5, 176);
        due("end 1 class 1", 34, 3, 189, 2, 192, 2, 176);
        due("1", 1, 187, 3, 89, 183, 3, 193, 2, 172);
        due("0", 1, 187, 2, 89, 183, 2, 193, 3, 172);
        due("1", 1, 187, 2, 89, 183, 2, 193, 5, 172);
        due("0", 1, 1, 193, 0, 172);
        due("1", 1, 3, 189, 2, 193, 0, 172);
        due("0", 1, 3, 189, 2, 193, 2, 172);
    }

    private static void thrown() {
        due("end 1 class 4", 0, 187, 4, 89, 183, 4, 191);
        due("end 1 class 1", 0, 187, 1, 89, 183, 1, 191);
        due("end 1 class 1", 0, 1, 191);
        Kit kit = kit();
        int method = kit.made(0, 0, 2, 0, 1, 191);
        kit.run(method);
        Check.same("what is thrown is made", kit.framer.end(3), 1);
        Check.same("fuel", kit.framer.end(1), 2);
        int own = kit.made(0, 0, 2, 0, 187, 4, 89, 183, 4, 191);
        kit.run(own);
        Check.same("what was made is thrown", kit.framer.end(3), 1);
        int good = kit.made(0, 0, 0, 0, 177);
        kit.run(good);
        Check.same("nothing thrown", kit.framer.end(2), -1);
        Check.same("nothing made", kit.framer.end(3), 0);
    }

    /** A kit with method 0: throws 1 for the argument 0, else 4; at 13 it answers 1, at 16 it answers 2. */
    private static Kit throwing() {
        Kit kit = kit();
        kit.told(1, 1, 2, 1, 21, 0, 153, 0, 9, 187, 4, 89, 183, 4, 191, 1, 191, 87, 4, 172, 87, 5, 172);
        return kit;
    }

    private static void handlers() {
        Kit both = throwing();
        both.framer.handler(0, 5, 13, 13, 4);
        both.framer.handler(0, 5, 13, 16, MapFramer.NONE);
        both.framer.verify(0);
        Check.same("the first that fits", both.run(0, 1, 0, 99), "1");
        Check.same("made", both.framer.end(3), 1);
        Check.same("used", both.framer.end(1), 9);
        Check.same("the second one fits", both.run(0, 0, 0, 99), "2");
        Kit turned = throwing();
        turned.framer.handler(0, 5, 13, 16, 1);
        turned.framer.handler(0, 5, 13, 13, 4);
        turned.framer.verify(0);
        Check.same("the first takes all", turned.run(0, 1, 0, 99), "2");
        Kit ahead = throwing();
        ahead.framer.handler(0, 5, 10, 13, 4);
        ahead.framer.handler(0, 12, 13, 16, 4);
        ahead.framer.verify(0);
        Check.same("not covered", ahead.run(0, 1, 0, 99), "end 1 class 4");
        Check.same("not of the class", ahead.run(0, 0, 0, 99), "end 1 class 1");
        Kit again = kit();
        int loop = again.told(0, 0, 1, 0, 1, 191, 191);
        again.framer.handler(loop, 0, 3, 2, 1);
        again.framer.verify(loop);
        Check.same("thrown again and again", again.run(loop, 0, 0, 500), "end 2");
        Check.same("one object", again.framer.end(3), 1);
    }

    private static void fuel() {
        Kit kit = kit();
        int forever = kit.made(0, 0, 0, 0, 167, 0, 0);
        Check.same("forever", kit.run(forever, 0, 0, 20000), "end 2");
        Check.same("used", kit.framer.end(1), 20000);
        int four = kit.made(0, 1, 2, 0, 0, 0, 3, 172);
        Check.same("enough", kit.run(four, 0, 0, 4), "0");
        Check.same("used", kit.framer.end(1), 4);
        Check.same("one too few", kit.run(four, 0, 0, 3), "end 2");
        Check.same("used", kit.framer.end(1), 3);
        Check.same("nothing thrown", kit.framer.end(2), -1);
        int throwing = kit.made(0, 0, 2, 0, 1, 191);
        Check.same("thrown by the last", kit.run(throwing, 0, 0, 2), "end 1 class 1");
        Check.same("not thrown", kit.run(throwing, 0, 0, 1), "end 2");
    }

    private static void calls() {
        Kit kit = kit();
        int deep = kit.made(1, 1, 2, 1, 21, 0, 154, 0, 5, 3, 172, 132, 0, 255, 21, 0, 184, 0, 4, 96, 172);
        Check.same("24 deep", kit.run(deep, 23, 0, 9999), "23");
        Check.same("25 deep", kit.run(deep, 24, 0, 9999), "end 3");
        Check.same("fuel of calls", kit.framer.end(1), 24 * 5);
        Check.same("nothing thrown", kit.framer.end(2), -1);
        int sides = kit.made(Kit.pack(2, 1, 2), 2, 6, 5, 22, 0, 21, 2, 133, 101, 22, 3, 101, 173);
        int caller = kit.made(0, 2, 9, 0, 8, 10, 10, 97, 6, 10, 184, sides, 173);
        Check.same("arguments in order", kit.run(caller), "-2");
        int quiet = kit.made(0, 0, 0, 0, 177);
        int after = kit.made(0, 1, 2, 0, 5, 184, quiet, 172);
        Check.same("a call without a result", kit.run(after), "2");
        Kit other = kit();
        int throwing = other.made(0, 1, 2, 0, 3, 3, 108, 172);
        int catching = other.told(0, 1, 3, 0, 8, 184, throwing, 96, 172, 87, 7, 172);
        other.framer.handler(catching, 1, 3, 5, 1);
        other.framer.verify(catching);
        Check.same("thrown out of a call", other.run(catching), "4");
        int ahead = other.told(0, 1, 3, 0, 8, 184, throwing, 96, 172, 87, 7, 172);
        other.framer.handler(ahead, 3, 5, 5, 1);
        other.framer.verify(ahead);
        Check.same("the handler does not cover the call", other.run(ahead), "end 1 class 1");
    }

    private static void objects() {
        Kit kit = kit();
        int many = kit.made(1, 1, 2, 1, 187, 0, 87, 132, 0, 255, 21, 0, 154, 255, 248, 3, 172);
        Check.same("150 objects", kit.run(many, 150, 0, 9999), "0");
        Check.same("made", kit.framer.end(3), 150);
        Check.same("151 objects", kit.run(many, 151, 0, 9999), "end 4");
        Check.same("made", kit.framer.end(3), 150);
        Check.same("used", kit.framer.end(1), 150 * 5 + 1);
        Check.same("nothing thrown", kit.framer.end(2), -1);
        Check.same("each run begins with none", kit.run(many, 1, 0, 9999), "0");
        Check.same("made", kit.framer.end(3), 1);
        int arrays = kit.made(1, 1, 2, 1, 3, 188, 11, 87, 132, 0, 255, 21, 0, 154, 255, 247, 3, 172);
        Check.same("151 arrays", kit.run(arrays, 151, 0, 9999), "end 4");
        int thrown = kit.made(1, 1, 2, 1, 187, 0, 87, 132, 0, 255, 21, 0, 154, 255, 248, 3, 3, 108, 172);
        Check.same("thrown as the 150th", kit.run(thrown, 149, 0, 9999), "end 1 class 1");
        Check.same("made", kit.framer.end(3), 150);
        Check.same("no object left to throw", kit.run(thrown, 150, 0, 9999), "end 4");
    }
}
