/** Promises 1 to 7 and 16: what is told, and how it is refused. */
final class TellingTest {
    public static void main(String[] args) {
        newObject();
        classes();
        fields();
        methods();
        tape();
        code();
        handlers();
        counts();
        Check.end("TellingTest");
    }

    private static void newObject() {
        MapFramer x = new MapFramer();
        Check.same("NONE", MapFramer.NONE, -1);
        Check.same("classes at first", x.count(0), 2);
        Check.same("fields at first", x.count(1), 0);
        Check.same("methods at first", x.count(2), 0);
        Check.same("tape at first", x.count(3), 0);
        for (int which = -1; which <= 4; which++) {
            Check.same("end without a run", x.end(which), -1);
        }
        Check.outOfBounds("about without a method", () -> x.about(0, 0));
    }

    private static void classes() {
        MapFramer x = new MapFramer();
        Check.same("under 0", x.cls(0, false), 2);
        Check.same("under 1", x.cls(1, false), 3);
        Check.same("an interface", x.cls(0, true), 4);
        Check.same("an interface's parent is not looked at", x.cls(-7, true), 5);
        Check.same("an interface's parent is not looked at", x.cls(99, true), 6);
        Check.illegalArgument("under an interface", () -> x.cls(4, false));
        Check.illegalArgument("under itself", () -> x.cls(7, false));
        Check.illegalArgument("under -1", () -> x.cls(-1, false));
        Check.illegalArgument("under the least number", () -> x.cls(Integer.MIN_VALUE, false));
        Check.same("none of these is counted", x.count(0), 7);
        for (int k = 7; k < 16; k++) {
            Check.same("class", x.cls(k - 1 == 6 ? 3 : k - 1, false), k);
        }
        Check.illegalState("the seventeenth", () -> x.cls(0, false));
        Check.illegalState("the seventeenth as an interface", () -> x.cls(0, true));
        Check.illegalArgument("the parent comes first", () -> x.cls(16, false));
        Check.same("classes", x.count(0), 16);
    }

    private static void fields() {
        MapFramer x = new MapFramer();
        x.cls(0, false);
        x.cls(0, true);
        Check.same("of class 1", x.field(1, 1, false), 0);
        Check.same("of class 2", x.field(2, 32 + 3, false), 1);
        Check.same("static of 0", x.field(0, 64, true), 2);
        Check.same("static of an interface", x.field(3, 4, true), 3);
        Check.illegalArgument("of 0", () -> x.field(0, 1, false));
        Check.illegalArgument("of an interface", () -> x.field(3, 1, false));
        Check.illegalArgument("no class 4", () -> x.field(4, 1, true));
        Check.illegalArgument("no class -1", () -> x.field(-1, 1, true));
        for (int type : new int[] {-1, 0, 5, 6, 31, 36, 47, 48, 63, 68, 79, 80, 96, 1000, Integer.MIN_VALUE}) {
            Check.illegalArgument("no type " + type, () -> x.field(2, type, true));
        }
        for (int type : new int[] {1, 2, 3, 4, 32, 35, 64, 67}) {
            x.field(2, type, false);
        }
        for (int k = 12; k < 16; k++) {
            Check.same("field", x.field(2, 2, k % 2 == 0), k);
        }
        Check.illegalState("the seventeenth", () -> x.field(2, 1, true));
        Check.illegalArgument("the type comes first", () -> x.field(2, 0, true));
        Check.illegalArgument("the class comes first", () -> x.field(0, 1, false));
        Check.same("fields", x.count(1), 16);
    }

    private static void methods() {
        MapFramer x = new MapFramer();
        Check.same("no arguments", x.method(0, 0), 0);
        Check.same("four arguments", x.method(Kit.pack(1, 2, 3, 65), 64), 1);
        Check.same("nothing is read behind a 0", x.method(Kit.pack(1, 0, 99, 255), 1), 2);
        Check.illegalArgument("no type 5", () -> x.method(5, 0));
        Check.illegalArgument("no class 2", () -> x.method(Kit.pack(1, 1, 1, 34), 0));
        Check.illegalArgument("no type 255", () -> x.method(-1, 0));
        for (int result : new int[] {-1, 5, 31, 34, 63, 66, 256, 1000}) {
            Check.illegalArgument("no result " + result, () -> x.method(0, result));
        }
        for (int k = 3; k < 8; k++) {
            Check.same("method", x.method(0, new int[] {1, 2, 3, 4, 33}[k - 3]), k);
        }
        Check.illegalState("the ninth", () -> x.method(0, 0));
        Check.illegalArgument("the type comes first", () -> x.method(0, 5));
        Check.same("methods", x.count(2), 8);
    }

    private static void tape() {
        Kit kit = new Kit();
        MapFramer x = kit.framer;
        x.method(0, 0);
        Check.same("feed", x.feed(0x000102B1), true);
        Check.same("tape", x.count(3), 4);
        x.code(0, 4, 0, 0);
        Check.same("the highest first", kit.code(0), "0 1 2 177");
        for (int k = 0; k < 100; k++) {
            Check.same("feed", x.feed(k), true);
        }
        Check.same("full", x.feed(0), false);
        Check.same("full", x.feed(0), false);
        Check.same("tape", x.count(3), 400);
    }

    private static void code() {
        Kit kit = new Kit();
        MapFramer x = kit.framer;
        x.method(Kit.pack(1, 2), 0);
        badCode(x, 1, 4, 0, 3);
        badCode(x, -1, 4, 0, 3);
        badCode(x, 0, 0, 0, 3);
        badCode(x, 0, 9, 0, 3);
        badCode(x, 0, 4, -1, 3);
        badCode(x, 0, 4, 13, 3);
        badCode(x, 0, 4, 0, 2);
        badCode(x, 0, 4, 0, -1);
        badCode(x, 0, 4, 0, 13);
        for (int k = 0; k < 40; k++) {
            x.feed(0);
        }
        Check.illegalArgument("121 bytes", () -> coded(x, 0, 121, 12, 12));
        Check.same("without code", x.about(0, 3), 0);
        kit.feed(1, 2, 3, 4, 5, 6, 7, 8);
        x.code(0, 6, 12, 12);
        Check.same("the tape is empty", x.count(3), 0);
        Check.same("the first ones", kit.code(0), "1 2 3 4 5 6");
        Check.same("MAXSTACK", x.about(0, 6), 12);
        Check.same("MAXLOCALS", x.about(0, 7), 12);
        kit.feed(9, 9, 9, 9);
        Check.illegalState("code once more", () -> coded(x, 0, 4, 12, 12));
        Check.same("the tape is empty all the same", x.count(3), 0);
        Check.illegalArgument("the bytes come first", () -> coded(x, 0, 4, 12, 12));
        Check.same("the old code stays", kit.code(0), "1 2 3 4 5 6");
        Check.same("what the arguments take is enough", kit.told(Kit.pack(2, 2, 2, 2), 0, 0, 8, 177), 1);
        int[] longest = new int[120];
        longest[119] = 177;
        int whole = kit.told(0, 0, 0, 0, longest);
        Check.same("120 bytes", x.about(whole, 3), 120);
        Check.same("frames of 120 bytes", x.verify(whole), 0);
    }

    private static void badCode(MapFramer x, int method, int n, int maxStack, int maxLocals) {
        x.feed(0);
        x.feed(0);
        Check.illegalArgument("code " + method + " " + n + " " + maxStack + " " + maxLocals,
            () -> coded(x, method, n, maxStack, maxLocals));
        Check.same("the tape is empty then", x.count(3), 0);
    }

    private static String coded(MapFramer x, int method, int n, int maxStack, int maxLocals) {
        x.code(method, n, maxStack, maxLocals);
        return "nothing thrown";
    }

    private static void handlers() {
        Kit kit = new Kit();
        MapFramer x = kit.framer;
        x.cls(1, false);
        x.cls(0, false);
        x.cls(1, true);
        x.method(0, 0);
        Check.illegalArgument("without code", () -> x.handler(0, 0, 1, 1, 1));
        kit.code(0, 1, 0, 0, 177);
        Check.illegalArgument("no method", () -> x.handler(1, 0, 1, 1, 1));
        for (int c : new int[] {-2, 0, 3, 4, 5, 16}) {
            Check.illegalArgument("class " + c, () -> x.handler(0, 0, 1, 1, c));
        }
        for (int place : new int[] {-1, 121, Integer.MAX_VALUE}) {
            Check.illegalArgument("from " + place, () -> x.handler(0, place, 1, 1, 1));
            Check.illegalArgument("to " + place, () -> x.handler(0, 0, place, 1, 1));
            Check.illegalArgument("place " + place, () -> x.handler(0, 0, 1, place, 1));
        }
        Check.same("handler", x.handler(0, 0, 120, 119, 1), 0);
        Check.same("handler", x.handler(0, 120, 0, 120, 2), 1);
        Check.same("handler", x.handler(0, 7, 8, 9, -1), 2);
        Check.same("handlers", kit.handlers(0), "0-120>119:1 120-0>120:2 7-8>9:1");
        for (int k = 3; k < 6; k++) {
            Check.same("handler", x.handler(0, 0, 1, 2, 1), k);
        }
        Check.illegalState("the seventh", () -> x.handler(0, 0, 1, 1, 1));
        Check.illegalArgument("the class comes first", () -> x.handler(0, 0, 1, 1, 0));
        Check.same("handlers", x.about(0, 5), 6);
        int other = kit.made(0, 0, 0, 0, 177);
        Check.illegalState("verified", () -> x.handler(other, 0, 1, 0, 1));
        Check.illegalArgument("the place comes first", () -> x.handler(other, 0, 1, 121, 1));
        int bad = kit.made(0, 0, 0, 0, 0);
        Check.illegalState("verified with a fault", () -> x.handler(bad, 0, 1, 0, 1));
        Check.outOfBounds("handlerAt 6", () -> x.handlerAt(0, 6, 0));
        Check.outOfBounds("handlerAt -1", () -> x.handlerAt(0, -1, 0));
        Check.outOfBounds("handlerAt what 4", () -> x.handlerAt(0, 0, 4));
        Check.outOfBounds("handlerAt what -1", () -> x.handlerAt(0, 0, -1));
        Check.outOfBounds("handlerAt of no method", () -> x.handlerAt(3, 0, 0));
    }

    private static void counts() {
        MapFramer x = new MapFramer();
        Check.same("count 4", x.count(4), -1);
        Check.same("count -1", x.count(-1), -1);
        x.feed(1);
        x.method(0, 0);
        x.field(0, 1, true);
        x.cls(0, true);
        Check.same("classes", x.count(0), 3);
        Check.same("fields", x.count(1), 1);
        Check.same("methods", x.count(2), 1);
        Check.same("tape", x.count(3), 4);
    }
}
