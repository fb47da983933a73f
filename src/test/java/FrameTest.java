import java.util.Arrays;

/** Promises 8 to 12: dead code, what is left of handlers, frames as they are written, and about. */
final class FrameTest {
    public static void main(String[] args) {
        kinds();
        far();
        types();
        places();
        deadCode();
        cuts();
        about();
        refusals();
        Check.end("FrameTest");
    }

    /** The frames of a method with MAXSTACK 4 and MAXLOCALS 6. */
    private static String frames(int arguments, int... code) {
        Kit kit = new Kit();
        int method = kit.made(arguments, 0, 4, 6, code);
        return kit.fault(method).equals("none") ? kit.frames(method) : "fault " + kit.fault(method);
    }

    private static void kinds() {
        Check.same("none", frames(0, 177), "");
        Check.same("SAME at 0", frames(0, 167, 0, 0), "0");
        Check.same("SAME at 0 and 4", frames(1, 21, 0, 153, 255, 254, 21, 0, 153, 0, 3, 177), "0 9");
        Check.same("one on the stack", frames(0, 3, 3, 153, 0, 3, 87, 177), "69 1");
        Check.same("two on the stack", frames(0, 3, 3, 3, 153, 0, 3, 88, 177), "255 0 6 0 0 0 2 1 1");
        Check.same("a LONG on the stack", frames(0, 9, 3, 153, 0, 3, 88, 177), "69 4");
        Check.same("one more", frames(1, 3, 54, 1, 167, 0, 3, 177), "252 0 6 1");
        Check.same("two more, the first TOP", frames(1, 3, 54, 2, 167, 0, 3, 177), "253 0 6 0 1");
        Check.same("three more", frames(1, 9, 55, 1, 3, 54, 4, 167, 0, 3, 177), "254 0 9 4 0 1");
        Check.same("four more", frames(1, 3, 54, 4, 167, 0, 3, 177), "255 0 6 0 5 1 0 0 0 1 0 0");
        Check.same("a LONG is one", frames(2, 9, 55, 2, 9, 55, 4, 167, 0, 3, 177), "253 0 9 4 4");
        Check.same("another one", frames(1, 1, 58, 0, 167, 0, 3, 177), "255 0 6 0 1 5 0 0");
        Check.same("one on the stack and another local", frames(0, 3, 54, 0, 3, 3, 153, 0, 3, 87, 177),
            "255 0 8 0 1 1 0 1 1");
        int[] others = {3, 54, 0, 3, 54, 1, 3, 54, 2, 3, 54, 3, 3, 153, 0, 3, 1, 58, 0, 3, 153, 0, 3, 177};
        Check.same("four more, then another", frames(0, others), "255 0 16 0 4 1 1 1 1 0 0 255 0 6 0 4 5 1 1 1 0 0");
        Check.same("two others", frames(Kit.pack(1, 1, 1, 1), 9, 55, 2, 1, 58, 3, 1, 58, 2, 21, 1, 153, 0, 3, 177),
            "255 0 14 0 4 1 1 5 5 0 0");
        Check.same("one less by a merge", frames(Kit.pack(1, 1, 1, 1), 21, 0, 153, 0, 6, 1, 58, 3, 177), "250 0 8");
        Check.same("two less by merges", frames(Kit.pack(1, 1, 1, 1), 21, 0, 153, 0, 6, 9, 55, 2, 177), "249 0 8");
        Check.same("three less", frames(Kit.pack(1, 1, 1, 1), 21, 0, 153, 0, 9, 9, 55, 2, 1, 58, 1, 177), "248 0 11");
        Check.same("a TOP that is no more is missing, too",
            frames(1, 3, 54, 2, 21, 0, 153, 0, 3, 21, 0, 153, 0, 6, 1, 58, 2, 177), "253 0 8 0 1 249 0 7");
        Check.same("four less", frames(Kit.pack(1, 1, 1, 1), 3, 153, 0, 15, 9, 55, 0, 9, 55, 2, 9, 55, 1, 9, 55, 2, 177),
            "255 0 16 0 0 0 0");
    }

    /** So many times 0 between two pieces of code. */
    private static int[] spread(int[] ahead, int many, int... behind) {
        int[] code = Arrays.copyOf(ahead, ahead.length + many + behind.length);
        System.arraycopy(behind, 0, code, ahead.length + many, behind.length);
        return code;
    }

    private static void far() {
        int[] over = {3, 153, 0, 62};
        Check.same("D 63", frames(0, spread(over, 59, 177)), "63");
        over[3] = 63;
        Check.same("D 64", frames(0, spread(over, 60, 177)), "251 0 64");
        int[] one = {3, 3, 153, 0, 61};
        Check.same("D 63, one on the stack", frames(0, spread(one, 58, 87, 177)), "127 1");
        one[4] = 62;
        Check.same("D 64, one on the stack", frames(0, spread(one, 59, 87, 177)), "247 0 64 1");
        one[4] = 115;
        Check.same("D 117, one on the stack", frames(0, spread(one, 112, 87, 177)), "247 0 117 1");
        Check.same("D is less by one behind a frame", frames(0, spread(new int[] {3, 153, 0, 3}, 64, 3, 153, 0, 3,
            177)), "4 251 0 67");
        Check.same("D is less by one behind a frame", frames(0, spread(new int[] {3, 153, 0, 3}, 60, 3, 153, 0, 3,
            177)), "4 63");
    }

    private static void types() {
        Kit kit = new Kit();
        kit.framer.cls(0, false);
        int method = kit.made(0, 0, 8, 7, 3, 54, 1, 187, 2, 58, 2, 1, 58, 3, 3, 189, 2, 58, 4, 3, 188, 10, 58, 5,
            3, 188, 11, 58, 6, 9, 1, 192, 2, 3, 153, 0, 3, 177);
        Check.same("all types", kit.frames(method),
            "255 0 33 0 7 0 1 8 0 3 5 7 1 2 7 2 3 7 2 4 0 2 4 7 0 2");
    }

    private static void places() {
        Kit kit = new Kit();
        int method = kit.told(1, 1, 2, 1, 21, 0, 153, 0, 5, 4, 172, 3, 172, 87, 2, 172);
        kit.framer.handler(method, 0, 2, 9, 1);
        kit.framer.handler(method, 5, 7, 9, 1);
        Check.same("frames", kit.framer.verify(method), 2);
        Check.same("frames", kit.frames(method), "7 65 7 0 1");
        int gone = kit.told(0, 0, 1, 0, 177, 0, 177);
        kit.framer.handler(gone, 1, 3, 0, 1);
        Check.same("a handler that is gone has no frame", kit.framer.verify(gone), 1);
        Check.same("handlers", kit.handlers(gone), "");
        Check.same("frames", kit.frames(gone), "65 7 0 1");
        int branch = kit.told(0, 0, 1, 0, 177, 167, 255, 255);
        Check.same("nor has a dead branch's place", kit.framer.verify(branch), 1);
        Check.same("frames", kit.frames(branch), "65 7 0 1");
        int thrown = kit.told(0, 0, 1, 0, 1, 198, 0, 5, 1, 191, 1, 191);
        Check.same("behind a throw", kit.framer.verify(thrown), 1);
        Check.same("frames", kit.frames(thrown), "6");
    }

    private static void deadCode() {
        Kit kit = new Kit();
        int method = kit.told(1, 0, 0, 2, 167, 0, 9, 16, 3, 177, 0, 0, 0, 177, 132, 0, 1);
        Check.same("frames", kit.framer.verify(method), 3);
        Check.same("put out", kit.code(method), "167 0 9 0 0 0 0 0 191 177 0 0 191");
        Check.same("MAXSTACK", kit.framer.about(method, 6), 1);
        Check.same("frames", kit.frames(method), "255 0 3 0 0 0 1 7 0 1 252 0 5 1 255 0 0 0 0 0 1 7 0 1");
        Check.same("types", kit.types(method, 3), "-");
        Check.same("types", kit.types(method, 9), "1 0 |");
        int one = kit.told(0, 0, 5, 0, 177, 0);
        Check.same("frames", kit.framer.verify(one), 1);
        Check.same("a row of one byte", kit.code(one), "177 191");
        Check.same("MAXSTACK", kit.framer.about(one, 6), 5);
        Check.same("frames", kit.frames(one), "65 7 0 1");
        int call = kit.told(0, 0, 1, 0, 177, 184, 3);
        int late = kit.told(0, 0, 1, 0, 177);
        kit.framer.verify(call);
        Check.same("code as it is now", kit.run(call, 0, 0, 5), "0");
        Check.same("not verified", kit.framer.about(late, 2), 0);
    }

    /** What is left of one handler when the rows 4 to 9 and 14 to 16 of this code are dead. */
    private static String cut(int from, int to) {
        Kit kit = new Kit();
        int method = kit.told(0, 0, 1, 0, 3, 153, 0, 8, 177, 0, 0, 0, 0, 3, 153, 0, 6, 177, 0, 0, 177, 87, 177);
        kit.framer.handler(method, 0, 1, 17, 1);
        kit.framer.handler(method, from, to, 17, 1);
        kit.framer.handler(method, 16, 17, 17, 1);
        kit.verify(method);
        String all = kit.handlers(method);
        return kit.fault(method).equals("none") && all.startsWith("0-1>17:1") && all.endsWith("16-17>17:1")
            ? all.substring(9, Math.max(9, all.length() - 11)) : "fault " + kit.fault(method) + " " + all;
    }

    private static void cuts() {
        Check.same("nothing", cut(0, 5), "0-5>17:1");
        Check.same("nothing", cut(9, 14), "9-14>17:1");
        Check.same("all", cut(5, 9), "");
        Check.same("all", cut(6, 8), "");
        Check.same("the end", cut(4, 7), "4-5>17:1");
        Check.same("the end", cut(4, 9), "4-5>17:1");
        Check.same("the beginning", cut(6, 10), "9-10>17:1");
        Check.same("the beginning", cut(5, 14), "9-14>17:1");
        Check.same("the middle", cut(4, 10), "4-5>17:1 9-10>17:1");
        Check.same("two middles", cut(0, 17), "0-5>17:1 9-14>17:1 16-17>17:1");
        Check.same("beginning and end", cut(7, 15), "9-14>17:1");
    }

    private static void about() {
        Kit kit = new Kit();
        MapFramer x = kit.framer;
        x.method(0, 0);
        int[] without = {0, -1, 0, 0, 0, 0, 0, 0, 0};
        int[] told = {0, -1, 0, 7, 0, 1, 0, 3, 0};
        int[] after = {0, -1, 1, 7, 5, 0, 1, 3, 2};
        aboutDue("without code", x, 0, without);
        kit.code(0, 0, 3, 167, 0, 6, 0, 0, 0, 177);
        x.handler(0, 3, 6, 6, 1);
        aboutDue("told", x, 0, told);
        x.verify(0);
        aboutDue("verified", x, 0, after);
        Check.same("frames", kit.frames(0), "67 7 0 1 2");
        x.method(0, 0);
        kit.code(1, 2, 1, 0, 0, 87, 177);
        kit.verify(1);
        aboutDue("a fault", x, 1, 6, 2, 1, 4, 0, 0, 2, 1, 0);
        for (int which : new int[] {-1, 9, 100}) {
            Check.outOfBounds("about " + which, () -> x.about(0, which));
        }
        Check.outOfBounds("no method", () -> x.about(2, 0));
        Check.outOfBounds("no method", () -> x.about(-1, 0));
    }

    private static void aboutDue(String what, MapFramer x, int method, int... due) {
        for (int which = 0; which < due.length; which++) {
            Check.same(what + ": about " + which, x.about(method, which), due[which]);
        }
    }

    private static void refusals() {
        Kit kit = new Kit();
        MapFramer x = kit.framer;
        x.method(0, 0);
        Check.outOfBounds("no code", () -> x.codeAt(0, 0));
        kit.code(0, 0, 0, 167, 0, 0);
        Check.outOfBounds("not verified", () -> x.frameAt(0, 0));
        x.verify(0);
        Check.same("codeAt", x.codeAt(0, 0), 167);
        Check.same("frameAt", x.frameAt(0, 0), 0);
        for (int k : new int[] {-1, 3, Integer.MIN_VALUE}) {
            Check.outOfBounds("codeAt " + k, () -> x.codeAt(0, k));
        }
        for (int k : new int[] {-1, 1, Integer.MAX_VALUE}) {
            Check.outOfBounds("frameAt " + k, () -> x.frameAt(0, k));
        }
        for (int method : new int[] {-1, 1, 8}) {
            Check.outOfBounds("codeAt of " + method, () -> x.codeAt(method, 0));
            Check.outOfBounds("frameAt of " + method, () -> x.frameAt(method, 0));
            Check.outOfBounds("handlerAt of " + method, () -> x.handlerAt(method, 0, 0));
        }
        Check.outOfBounds("no handler", () -> x.handlerAt(0, 0, 0));
    }
}
