/** Promise 8: each fault, where it is, and which of two comes first. */
final class FaultTest {
    public static void main(String[] args) {
        refusals();
        shape();
        members();
        branches();
        handlers();
        stack();
        locals();
        values();
        results();
        ends();
        merges();
        uninitialized();
        manyHandlers();
        Check.end("FaultTest");
    }

    /** The fault of a method without arguments, with MAXSTACK and MAXLOCALS 4. */
    private static String fault(int result, int... code) {
        Kit kit = new Kit();
        return kit.fault(kit.made(0, result, 4, 4, code));
    }

    private static void due(String fault, int result, int... code) {
        Check.same("fault of " + java.util.Arrays.toString(code), fault(result, code), fault);
    }

    private static void refusals() {
        Kit kit = new Kit();
        MapFramer x = kit.framer;
        Check.illegalArgument("no method", () -> x.verify(0));
        Check.illegalArgument("no method", () -> x.verify(-1));
        x.method(0, 0);
        Check.illegalArgument("no code", () -> x.verify(0));
        kit.code(0, 0, 0, 177);
        Check.same("frames", x.verify(0), 0);
        Check.illegalState("once more", () -> x.verify(0));
        kit.told(0, 0, 0, 0, 0);
        Check.unsupported("a fault", () -> x.verify(1));
        Check.illegalState("a fault once more", () -> x.verify(1));
        Check.same("a fault counts as verified", x.about(1, 2), 1);
        Check.same("no frames at a fault", x.about(1, 8), 0);
        Check.same("no bytes of frames at a fault", x.about(1, 4), 0);
        Check.outOfBounds("no frame at a fault", () -> x.frameAt(1, 0));
    }

    private static void shape() {
        for (int op = 0; op < 256; op++) {
            boolean isOne = Model.size(op) > 0;
            if (!isOne) {
                due("1 at 1", 0, 0, op, 0, 0);
            }
        }
        due("1 at 0", 0, 16);
        due("1 at 1", 0, 0, 17, 0);
        due("1 at 0", 0, 167, 0);
        due("1 at 1", 0, 177, 132, 0);
        due("1 at 1", 0, 177, 184);
        // a wrong local ahead of it comes first, one behind it does not
        due("2 at 0", 0, 21, 4, 255);
        due("1 at 0", 0, 255, 21, 4);
    }

    private static void members() {
        due("2 at 1", 0, 0, 21, 4);
        due("2 at 1", 0, 0, 25, 255);
        due("2 at 0", 0, 54, 4);
        due("2 at 0", 0, 58, 4);
        due("2 at 0", 0, 132, 4, 1);
        due("2 at 0", 0, 22, 3);
        due("2 at 0", 0, 55, 3);
        due("none", 0, 9, 55, 2, 177);
        due("3 at 1", 0, 1, 188, 9);
        due("3 at 1", 0, 1, 188, 12);
        due("3 at 0", 0, 184, 1);
        due("none", 0, 184, 0, 177);
        due("3 at 0", 0, 187, 2);
        due("3 at 0", 0, 183, 2);
        due("3 at 0", 0, 189, 2);
        due("3 at 0", 0, 192, 2);
        due("3 at 0", 0, 193, 2);
        due("3 at 0", 0, 178, 0);
        due("3 at 2", 0, 54, 0, 181, 0, 167, 9, 9);
        Kit kit = new Kit();
        kit.framer.cls(0, true);
        kit.framer.field(1, 1, false);
        kit.framer.field(1, 1, true);
        kit.framer.method(0, 0);
        int[][] wrong = {{178, 0}, {179, 0}, {180, 1}, {181, 1}, {187, 2}, {183, 2}};
        for (int[] code : wrong) {
            Check.same("fault of " + code[0], freshFault(code), "3 at 0");
        }
        Check.same("184 of one without code", kit.fault(kit.made(0, 0, 0, 0, 184, 0, 177)), "3 at 0");
        Check.same("interfaces of 189, 192, 193",
            kit.fault(kit.made(0, 0, 2, 0, 3, 189, 2, 192, 2, 193, 2, 87, 177)), "none");
    }

    private static String freshFault(int... code) {
        Kit kit = new Kit();
        kit.framer.cls(0, true);
        kit.framer.field(1, 1, false);
        kit.framer.field(1, 1, true);
        return kit.fault(kit.made(0, 0, 4, 4, code));
    }

    private static void branches() {
        due("4 at 0", 0, 167, 0, 1);
        due("4 at 0", 0, 167, 0, 3);
        due("4 at 0", 0, 167, 255, 255);
        due("4 at 0", 0, 167, 128, 0);
        due("none", 0, 167, 0, 0);
        due("4 at 3", 0, 167, 0, 0, 198, 0, 4, 16, 199, 177);
        due("4 at 1", 0, 3, 153, 0, 4, 16, 1, 177);
        // shape comes first, wherever it is; flow comes last
        due("1 at 3", 0, 167, 0, 1, 255);
        due("4 at 1", 0, 87, 167, 0, 1);
    }

    private static String handlerFault(int from, int to, int place, int... code) {
        Kit kit = new Kit();
        int method = kit.told(0, 0, 1, 1, code);
        kit.framer.handler(method, 0, code.length, 0, 1);
        kit.framer.handler(method, from, to, place, 1);
        kit.verify(method);
        return kit.fault(method);
    }

    private static void handlers() {
        int[] code = {16, 1, 87, 177};
        Check.same("from = to", handlerFault(2, 2, 0, code), "5 at 1");
        Check.same("from > to", handlerFault(3, 2, 0, code), "5 at 1");
        Check.same("from in the middle", handlerFault(1, 2, 0, code), "5 at 1");
        Check.same("to in the middle", handlerFault(0, 1, 0, code), "5 at 1");
        Check.same("place in the middle", handlerFault(0, 2, 1, code), "5 at 1");
        Check.same("place at the end", handlerFault(0, 2, 4, code), "5 at 1");
        Check.same("to behind the end", handlerFault(0, 5, 0, code), "5 at 1");
        Check.same("from at the end", handlerFault(4, 5, 0, code), "5 at 1");
        Check.same("a branch comes first", handlerFault(1, 2, 0, 167, 0, 1), "4 at 0");
        Check.same("flow comes last", handlerFault(1, 1, 0, 87, 87), "5 at 1");
        Kit kit = new Kit();
        int method = kit.told(0, 0, 1, 0, 177, 87, 177);
        kit.framer.handler(method, 0, 3, 1, 1);
        Check.same("to at the end", kit.framer.verify(method), 1);
        int none = kit.told(0, 0, 0, 0, 0, 177, 177);
        kit.framer.handler(none, 1, 2, 2, 1);
        kit.verify(none);
        Check.same("MAXSTACK 0", kit.fault(none), "7 at 1");
        int dead = kit.told(0, 0, 0, 0, 177, 0, 177);
        kit.framer.handler(dead, 1, 2, 2, 1);
        Check.same("MAXSTACK 0 and a handler of dead code", kit.framer.verify(dead), 1);
        int behind = kit.told(0, 0, 0, 0, 0);
        kit.framer.handler(behind, 0, 1, 0, 1);
        kit.verify(behind);
        Check.same("the end comes ahead of the handlers", kit.fault(behind), "8 at 0");
        int clash = kit.told(0, 0, 1, 0, 0, 177);
        kit.framer.handler(clash, 0, 1, 0, 1);
        kit.verify(clash);
        Check.same("a handler at its own instruction", kit.fault(clash), "9 at 0");
    }

    private static void stack() {
        due("7 at 4", 0, 3, 3, 3, 3, 3, 177);
        due("7 at 3", 0, 3, 3, 3, 9, 177);
        due("none", 0, 9, 9, 177);
        due("7 at 2", 0, 9, 9, 92, 177);
        due("7 at 4", 0, 3, 3, 3, 3, 133, 177);
        due("none", 0, 3, 3, 3, 133, 88, 177);
        due("7 at 4", 0, 3, 3, 3, 3, 89, 177);
        due("7 at 4", 0, 3, 3, 3, 3, 90, 177);
        due("7 at 3", 0, 3, 3, 3, 92, 177);
        due("none", 0, 3, 3, 92, 177);
        due("7 at 8", 0, 1, 58, 0, 3, 3, 3, 3, 0, 25, 0, 177);
        due("7 at 4", 0, 3, 3, 3, 3, 187, 0, 177);
        // what is popped comes ahead of what is pushed, and that ahead of the end
        due("6 at 4", 0, 3, 3, 3, 1, 133);
        due("7 at 4", 0, 3, 3, 3, 3, 3);
        due("6 at 0", 0, 87);
    }

    private static void locals() {
        due("6 at 0", 0, 21, 0, 177);
        due("6 at 3", 0, 1, 58, 0, 21, 0, 177);
        due("6 at 3", 0, 3, 54, 0, 25, 0, 177);
        due("6 at 3", 0, 3, 54, 0, 22, 0, 177);
        due("6 at 3", 0, 9, 55, 0, 21, 1, 177);
        due("6 at 6", 0, 9, 55, 0, 3, 54, 1, 22, 0, 177);
        due("6 at 6", 0, 9, 55, 0, 9, 55, 1, 22, 0, 177);
        due("none", 0, 9, 55, 1, 9, 55, 0, 22, 0, 177);
        due("6 at 6", 0, 9, 55, 1, 9, 55, 0, 22, 1, 177);
        due("6 at 0", 0, 132, 0, 1, 177);
        due("none", 0, 3, 54, 3, 132, 3, 255, 177);
        due("6 at 1", 0, 9, 54, 0, 177);
        due("6 at 1", 0, 3, 55, 0, 177);
        due("6 at 1", 0, 3, 58, 0, 177);
        due("none", 0, 187, 0, 58, 0, 25, 0, 87, 177);
    }

    private static void values() {
        due("6 at 1", 0, 9, 87, 177);
        due("6 at 1", 0, 9, 89, 177);
        due("6 at 2", 0, 9, 3, 88, 177);
        due("6 at 2", 0, 9, 3, 92, 177);
        due("6 at 2", 0, 9, 3, 90, 177);
        due("6 at 2", 0, 3, 9, 90, 177);
        due("6 at 2", 0, 9, 3, 95, 177);
        due("6 at 2", 0, 3, 9, 95, 177);
        due("6 at 1", 0, 3, 88, 177);
        due("none", 0, 187, 0, 89, 95, 88, 177);
        due("6 at 2", 0, 3, 9, 96, 177);
        due("6 at 2", 0, 3, 9, 109, 177);
        due("6 at 1", 0, 3, 109, 177);
        due("6 at 1", 0, 9, 133, 177);
        due("6 at 1", 0, 3, 136, 177);
        due("6 at 2", 0, 3, 3, 148, 177);
        due("6 at 1", 0, 1, 153, 0, 3, 177);
        due("6 at 2", 0, 1, 3, 159, 0, 3, 177);
        due("6 at 2", 0, 1, 3, 165, 0, 3, 177);
        due("6 at 3", 0, 1, 187, 0, 166, 0, 3, 177);
        due("6 at 2", 0, 187, 0, 198, 0, 3, 177);
        due("6 at 1", 0, 3, 199, 0, 3, 177);
        due("6 at 1", 0, 1, 188, 10, 177);
        due("6 at 1", 0, 9, 189, 0, 177);
        due("6 at 1", 0, 3, 190, 177);
        due("6 at 3", 0, 1, 192, 0, 190, 177);
        due("none", 0, 1, 190, 153, 255, 254, 177);
        due("6 at 2", 0, 187, 0, 192, 0, 177);
        due("6 at 2", 0, 187, 0, 193, 0, 177);
        due("6 at 1", 0, 3, 192, 0, 177);
        due("6 at 1", 0, 3, 191);
        due("none", 0, 1, 191);
        due("6 at 3", 0, 1, 192, 0, 191);
        due("none", 0, 1, 192, 1, 191);
        arrays();
    }

    private static void arrays() {
        due("none", 0, 3, 188, 10, 3, 46, 87, 177);
        due("none", 0, 1, 3, 46, 87, 1, 3, 47, 88, 1, 3, 50, 190, 87, 177);
        due("6 at 4", 0, 3, 188, 11, 3, 46, 87, 177);
        due("6 at 4", 0, 3, 188, 10, 3, 47, 87, 177);
        due("6 at 4", 0, 3, 188, 10, 3, 50, 87, 177);
        due("6 at 4", 0, 3, 189, 0, 3, 46, 87, 177);
        due("6 at 4", 0, 3, 189, 0, 1, 50, 87, 177);
        due("6 at 5", 0, 3, 188, 10, 3, 9, 79, 177);
        due("6 at 5", 0, 3, 188, 11, 3, 3, 80, 177);
        due("none", 0, 3, 188, 11, 3, 9, 80, 177);
        due("6 at 5", 0, 3, 188, 10, 3, 1, 83, 177);
        due("6 at 5", 0, 3, 189, 1, 3, 3, 83, 177);
        due("6 at 6", 0, 3, 189, 1, 3, 187, 0, 83, 177);
        due("none", 0, 3, 189, 1, 3, 3, 188, 10, 83, 177);
        due("none", 0, 1, 3, 3, 79, 1, 3, 9, 80, 1, 3, 1, 83, 177);
    }

    private static void results() {
        due("none", 1, 3, 172);
        due("6 at 1", 2, 3, 172);
        due("6 at 1", 0, 3, 172);
        due("6 at 1", 32, 3, 172);
        due("6 at 1", 1, 9, 172);
        due("none", 2, 9, 173);
        due("6 at 1", 1, 9, 173);
        due("none", 32, 1, 176);
        due("none", 4, 1, 176);
        due("6 at 1", 1, 1, 176);
        due("6 at 1", 0, 1, 176);
        due("6 at 0", 1, 177);
        due("none", 32, 3, 188, 10, 176);
        due("6 at 3", 33, 3, 188, 10, 176);
        due("6 at 3", 3, 3, 188, 11, 176);
        due("none", 64, 3, 189, 1, 176);
        due("6 at 3", 65, 3, 189, 0, 176);
        due("6 at 2", 32, 187, 0, 176);
    }

    private static void ends() {
        due("8 at 0", 0, 0);
        due("8 at 1", 0, 3, 153, 255, 255);
        due("8 at 2", 0, 0, 0, 16, 1);
        due("none", 0, 3, 154, 0, 3, 177);
        due("none", 0, 177, 0);
        // the least place first: 6 stands further on, but its place is looked at earlier
        due("6 at 4", 0, 3, 153, 0, 4, 87, 0);
        due("8 at 4", 0, 3, 153, 0, 3, 0);
    }

    private static void merges() {
        due("9 at 5", 0, 3, 3, 153, 0, 3, 87, 3, 3, 167, 255, 253);
        due("9 at 6", 0, 3, 3, 153, 0, 4, 133, 177);
        due("9 at 6", 0, 1, 3, 153, 0, 4, 190, 177);
        due("9 at 7", 0, 187, 0, 3, 153, 0, 4, 3, 177);
        due("none", 0, 3, 54, 0, 3, 153, 0, 6, 1, 58, 0, 177);
        due("6 at 10", 0, 3, 54, 0, 3, 153, 0, 6, 1, 58, 0, 21, 0, 177);
    }

    private static void uninitialized() {
        due("none", 0, 187, 1, 183, 1, 177);
        due("6 at 2", 0, 187, 1, 183, 0, 177);
        due("6 at 1", 0, 1, 183, 0, 177);
        due("6 at 0", 0, 183, 0, 177);
        due("6 at 5", 0, 187, 1, 89, 183, 1, 183, 1, 177);
        due("9 at 1", 0, 1, 187, 0, 95, 87, 167, 255, 252);
        due("9 at 0", 0, 187, 0, 167, 255, 254);
        Kit kit = new Kit();
        int loop = kit.told(0, 0, 4, 4, 187, 0, 58, 0, 167, 255, 252);
        Check.same("in a local", kit.framer.verify(loop), 1);
        Check.same("types ahead", kit.types(loop, 0), "0 0 0 0 |");
    }

    private static void manyHandlers() {
        Kit kit = new Kit();
        // live, dead, live, dead, live: every handler is cut twice
        int[] code = {3, 153, 0, 8, 177, 0, 0, 0, 0, 3, 153, 0, 6, 177, 0, 0, 177, 87, 177};
        int five = kit.told(0, 0, 1, 0, code);
        for (int k = 0; k < 4; k++) {
            kit.framer.handler(five, 0, 17, 17, 1);
        }
        Check.same("twelve handlers", kit.framer.verify(five), 5);
        Check.same("twelve handlers", kit.framer.about(five, 5), 12);
        int six = kit.told(0, 0, 1, 0, code);
        for (int k = 0; k < 5; k++) {
            kit.framer.handler(six, 0, 17, 17, 1);
        }
        Check.unsupported("fifteen handlers", () -> kit.framer.verify(six));
        Check.same("at the second row", kit.fault(six), "10 at 14");
        Check.same("handlers as they were", kit.framer.about(six, 5), 5);
        Check.same("code as it was", kit.code(six), "3 153 0 8 177 0 0 0 0 3 153 0 6 177 0 0 177 87 177");
        Check.outOfBounds("no types", () -> kit.framer.typeAt(six, 0, 100));
    }
}
