import java.util.Arrays;

/** The sentences of "DEAD CODE", "FRAMES" and "WRITTEN" that name a boundary case, one by one. */
final class WrittenTest {
    /** 0, 1 and 5, 6 and 9, 10 live; 4 and 11 to 15 dead; 16, 17 live by a handler. */
    private static final int[] HOLES = {0, 167, 0, 4, 0, 0, 167, 0, 3, 0, 177, 0, 0, 0, 0, 0, 87, 177};

    public static void main(String[] args) {
        rows();
        rowsAndMaxStack();
        rowFrames();
        handlersLoseRows();
        moreThanTwelve();
        firstRowOfTooMany();
        branchPlaces();
        handlerPlaces();
        behindWhatDoesNotGoOn();
        distance();
        distanceOfOneOnTheStack();
        missing();
        more();
        others();
        lastTops();
        types();
        longest();
        Check.end("WrittenTest");
    }

    private static int[] join(int[] ahead, int... behind) {
        int[] all = Arrays.copyOf(ahead, ahead.length + behind.length);
        System.arraycopy(behind, 0, all, ahead.length, behind.length);
        return all;
    }

    /** Code, so many times 0, and the rest. */
    private static int[] spread(int[] ahead, int many, int... behind) {
        return join(join(ahead, new int[many]), behind);
    }

    private static void codeDue(String due, int... code) {
        Kit kit = new Kit();
        int method = kit.made(0, 0, 1, 1, code);
        Check.same("code of " + Arrays.toString(code), kit.code(method), due);
    }

    /** Each row of them, as long as it can be, is put out: its bytes become 0, the last one 191. */
    private static void rows() {
        codeDue("177", 177);
        codeDue("177 191", 177, 177);
        codeDue("177 0 191", 177, 16, 177);
        codeDue("177 0 0 191", 177, 177, 177, 177);
        codeDue("177 0 0 0 0 0 191", 177, 167, 0, 0, 132, 0, 1);
        codeDue("167 0 4 191 177", 167, 0, 4, 9, 177);
        codeDue("167 0 4 191 177 191", 167, 0, 4, 9, 177, 191);
        codeDue("167 0 4 191 167 0 4 191 177", 167, 0, 4, 9, 167, 0, 4, 9, 177);
        codeDue("167 0 5 0 191 167 0 5 0 191 177 0 191", 167, 0, 5, 9, 88, 167, 0, 5, 16, 1, 177, 3, 87);
        codeDue("167 0 3 177", 167, 0, 3, 177);
        Kit kit = new Kit();
        int whole = kit.made(0, 0, 0, 0, spread(new int[] {177}, 119));
        Check.same("119 dead bytes, the last but one", kit.framer.codeAt(whole, 118), 0);
        Check.same("119 dead bytes, the last", kit.framer.codeAt(whole, 119), 191);
        Check.same("the length stays", kit.framer.about(whole, 3), 120);
        Check.same("one frame for all", kit.framer.about(whole, 8), 1);
        int live = kit.made(0, 0, 0, 0, spread(new int[0], 119, 177));
        Check.same("no dead byte, no frame", kit.framer.about(live, 8), 0);
        Check.same("no dead byte, no change", kit.framer.codeAt(live, 118), 0);
    }

    /** MAXSTACK is at least 1 then. */
    private static void rowsAndMaxStack() {
        for (int most : new int[] {0, 1, 2, 12}) {
            Kit kit = new Kit();
            int dead = kit.made(0, 0, most, 0, 177, 0);
            Check.same("MAXSTACK " + most + " with dead code", kit.framer.about(dead, 6), Math.max(1, most));
            int live = kit.made(0, 0, most, 0, 0, 177);
            Check.same("MAXSTACK " + most + " without", kit.framer.about(live, 6), most);
            int bad = kit.made(0, 0, most, 0, 177, 255);
            Check.same("MAXSTACK " + most + " at a fault", kit.framer.about(bad, 6), most);
        }
    }

    private static String frames(int arguments, int... code) {
        Kit kit = new Kit();
        int method = kit.made(arguments, 0, 12, 12, code);
        return kit.fault(method).equals("none") ? kit.frames(method) : "fault " + kit.fault(method);
    }

    private static void due(String frames, int arguments, int... code) {
        Check.same("frames of " + Arrays.toString(code), frames(arguments, code), frames);
    }

    /** Its first place gets a frame with no locals and object 1 on the stack. */
    private static void rowFrames() {
        due("65 7 0 1", 0, 177, 0);
        due("255 0 1 0 0 0 1 7 0 1", 1, 177, 0);
        due("127 7 0 1", 0, spread(new int[0], 62, 177, 0));
        due("247 0 64 7 0 1", 0, spread(new int[0], 63, 177, 0));
        due("255 0 64 0 0 0 1 7 0 1", 2, spread(new int[0], 63, 177, 0));
        due("255 0 3 0 0 0 1 7 0 1 252 0 0 1", 1, 167, 0, 4, 0, 177);
        due("255 0 3 0 0 0 1 7 0 1 252 0 0 1 255 0 0 0 0 0 1 7 0 1", 1, 167, 0, 4, 0, 177, 0);
        due("67 7 0 1 0 64 7 0 1", 0, 167, 0, 4, 0, 177, 0);
        // two rows: the second one's frame has no locals, as the one of the first
        due("255 0 3 0 0 0 1 7 0 1 252 0 1 1 255 0 2 0 0 0 1 7 0 1 252 0 0 1", 1,
            167, 0, 5, 0, 0, 167, 0, 4, 0, 177);
    }

    private static String left(int... handlers) {
        Kit kit = new Kit();
        int method = kit.told(0, 0, 1, 0, HOLES);
        for (int k = 0; k < handlers.length; k += 2) {
            kit.framer.handler(method, handlers[k], handlers[k + 1], 16, 1);
        }
        kit.verify(method);
        return kit.fault(method).equals("none") ? kit.handlers(method) : "fault " + kit.fault(method);
    }

    /** Handlers lose such rows: of one that is cut in the middle comes one more behind it; those with nothing left are gone. */
    private static void handlersLoseRows() {
        Check.same("not touched", left(0, 1), "0-1>16:1");
        Check.same("to the row", left(0, 4), "0-4>16:1");
        Check.same("to the row's end", left(0, 5), "0-4>16:1");
        Check.same("behind it", left(0, 6), "0-4>16:1 5-6>16:1");
        Check.same("the row alone, and one that is left", left(4, 5, 0, 1), "0-1>16:1");
        Check.same("from the row", left(4, 6), "5-6>16:1");
        Check.same("from behind the row", left(5, 6), "5-6>16:1");
        Check.same("to the second row", left(5, 11), "5-11>16:1");
        Check.same("into the second row", left(5, 12), "5-11>16:1");
        Check.same("to the second row's end", left(1, 16), "1-4>16:1 5-11>16:1");
        Check.same("to the code's end", left(1, 18), "1-4>16:1 5-11>16:1 16-18>16:1");
        Check.same("within the second row", left(12, 14, 0, 1), "0-1>16:1");
        Check.same("from within the second row", left(12, 17, 0, 1), "16-17>16:1 0-1>16:1");
        Check.same("all of it, twice", left(0, 18, 0, 18),
            "0-4>16:1 5-11>16:1 16-18>16:1 0-4>16:1 5-11>16:1 16-18>16:1");
        Check.same("behind it, ahead of the next one", left(0, 6, 0, 1, 5, 18),
            "0-4>16:1 5-6>16:1 0-1>16:1 5-11>16:1 16-18>16:1");
        Kit kit = new Kit();
        kit.framer.cls(1, false);
        int other = kit.told(0, 0, 1, 0, HOLES);
        kit.framer.handler(other, 0, 6, 16, 2);
        kit.framer.verify(other);
        Check.same("its class, too", kit.handlers(other), "0-4>16:2 5-6>16:2");
        int gone = kit.told(0, 0, 1, 0, 177, 0, 87, 177);
        kit.framer.handler(gone, 1, 3, 2, 1);
        kit.framer.verify(gone);
        Check.same("all are gone", kit.framer.about(gone, 5), 0);
        Check.same("and what they went to is dead", kit.code(gone), "177 0 0 191");
    }

    /** Code with a row of one dead byte at 4, 9, 14, .. and 87, 177 at the end, where handlers go. */
    private static int[] holes(int rows) {
        int[] code = new int[0];
        for (int k = 0; k < rows; k++) {
            code = join(code, 0, 167, 0, 4, 0);
        }
        return join(code, 177, 87, 177);
    }

    private static String manyHandlers(int rows, int[] ends) {
        Kit kit = new Kit();
        int[] code = holes(rows);
        int method = kit.told(0, 0, 1, 0, code);
        for (int end : ends) {
            kit.framer.handler(method, 0, end, code.length - 2, 1);
        }
        kit.verify(method);
        return kit.fault(method) + ", " + kit.framer.about(method, 5);
    }

    /** (If there would be more than 12 handlers, the fault 10, at the first row by which that is so.) */
    private static void moreThanTwelve() {
        Check.same("6 of 6", manyHandlers(1, new int[] {4, 4, 4, 4, 4, 4}), "none, 6");
        Check.same("12 of 6", manyHandlers(1, new int[] {6, 6, 6, 6, 6, 6}), "none, 12");
        Check.same("12 of 5", manyHandlers(4, new int[] {6, 6, 6, 11, 11}), "none, 12");
        Check.same("12 of 1", manyHandlers(11, new int[] {56}), "none, 12");
        Check.same("13 of 1", manyHandlers(12, new int[] {61}), "10 at 59, 1");
        Check.same("13 of 2", manyHandlers(11, new int[] {56, 4}), "10 at 54, 2");
        Check.same("13 of 6", manyHandlers(2, new int[] {6, 6, 6, 6, 6, 11}), "10 at 9, 6");
        Check.same("18 of 6", manyHandlers(2, new int[] {11, 11, 11, 11, 11, 11}), "10 at 9, 6");
        Check.same("15 of 5", manyHandlers(2, new int[] {11, 11, 11, 11, 11}), "10 at 9, 5");
        Check.same("15 of 3, by the fourth row", manyHandlers(4, new int[] {21, 21, 21}), "10 at 19, 3");
        Check.same("16 of 4", manyHandlers(3, new int[] {16, 16, 16, 16}), "10 at 14, 4");
        Check.same("13 of 4", manyHandlers(3, new int[] {16, 11, 11, 11}), "10 at 14, 4");
        Check.same("12 of 4", manyHandlers(2, new int[] {11, 11, 11, 11}), "none, 12");
    }

    /** At that fault nothing was put out, and there are no frames, no types, no runs. */
    private static void firstRowOfTooMany() {
        Kit kit = new Kit();
        MapFramer x = kit.framer;
        int[] code = holes(3);
        int method = kit.told(0, 0, 1, 1, code);
        for (int k = 0; k < 5; k++) {
            x.handler(method, 0, 16, 16, 1);
        }
        Check.unsupported("too many", () -> x.verify(method));
        Check.same("at the second row", kit.fault(method), "10 at 9");
        Check.same("verified", x.about(method, 2), 1);
        Check.same("code", kit.code(method), "0 167 0 4 0 0 167 0 4 0 0 167 0 4 0 177 87 177");
        Check.same("handlers", kit.handlers(method), "0-16>16:1 0-16>16:1 0-16>16:1 0-16>16:1 0-16>16:1");
        Check.same("bytes of frames", x.about(method, 4), 0);
        Check.same("frames", x.about(method, 8), 0);
        Check.outOfBounds("types", () -> x.typeAt(method, 0, 0));
        Check.illegalArgument("a run", () -> x.run(method, 0, 0, 9));
        Check.illegalState("once more", () -> x.verify(method));
        // handlers that the first row takes away make room for those of the second
        Kit other = new Kit();
        int room = other.told(0, 0, 1, 0, holes(2));
        other.framer.handler(room, 4, 5, 11, 1);
        other.framer.handler(room, 4, 5, 11, 1);
        for (int k = 0; k < 4; k++) {
            other.framer.handler(room, 0, 11, 11, 1);
        }
        other.verify(room);
        Check.same("two gone, four cut twice", other.fault(room) + ", " + other.framer.about(room, 5), "none, 12");
    }

    /** FRAMES are at each branch's place. */
    private static void branchPlaces() {
        for (int op = 153; op <= 158; op++) {
            due("5", 0, 3, op, 0, 4, 0, 177);
        }
        for (int op = 159; op <= 164; op++) {
            due("6", 0, 3, 3, op, 0, 4, 0, 177);
        }
        due("6", 0, 1, 1, 165, 0, 4, 0, 177);
        due("6", 0, 1, 1, 166, 0, 4, 0, 177);
        due("5", 0, 1, 198, 0, 4, 0, 177);
        due("5", 0, 1, 199, 0, 4, 0, 177);
        due("3", 0, 167, 0, 3, 177);
        due("0", 0, 167, 0, 0);
        due("0", 0, 0, 167, 255, 255);
        due("0 2", 0, 167, 0, 3, 167, 255, 253);
        due("", 0, 0, 177);
        // two branches to one place: one frame
        due("8", 0, 3, 153, 0, 7, 3, 153, 0, 3, 177);
        // a branch in dead code is none
        due("66 7 0 1", 0, 0, 177, 167, 255, 254);
    }

    /** .. handler's place (of what is left). */
    private static void handlerPlaces() {
        Kit kit = new Kit();
        int left = kit.told(0, 0, 1, 0, 0, 177, 87, 177);
        kit.framer.handler(left, 0, 1, 2, 1);
        Check.same("of one that is left", kit.framer.verify(left), 1);
        Check.same("frames", kit.frames(left), "66 7 0 1");
        int two = kit.told(0, 0, 1, 0, 0, 177, 87, 177);
        kit.framer.handler(two, 0, 1, 2, 1);
        kit.framer.handler(two, 1, 2, 2, 1);
        Check.same("of two at one place", kit.framer.verify(two), 1);
        int both = kit.told(0, 0, 1, 0, 0, 177, 87, 177, 87, 177);
        kit.framer.handler(both, 0, 1, 4, 1);
        kit.framer.handler(both, 1, 2, 2, 1);
        Check.same("of two", kit.framer.verify(both), 2);
        Check.same("in the order of places", kit.frames(both), "66 7 0 1 65 7 0 1");
        int gone = kit.told(0, 0, 1, 0, 0, 0, 177, 0);
        kit.framer.handler(gone, 3, 4, 1, 1);
        Check.same("of one that is gone", kit.framer.verify(gone), 1);
        Check.same("frames", kit.frames(gone), "67 7 0 1");
        int falls = kit.told(0, 0, 1, 0, 1, 192, 1, 87, 177);
        kit.framer.handler(falls, 0, 1, 3, 1);
        Check.same("a place that code goes on to, too", kit.framer.verify(falls), 1);
        Check.same("frames", kit.frames(falls), "67 7 0 1");
    }

    /** .. behind each 167, 172 .. 177, 191 that is not the last one, and at dead rows. */
    private static void behindWhatDoesNotGoOn() {
        int[] results = {1, 2, 32, 0, 0};
        int[][] ends = {{3, 172}, {9, 173}, {1, 176}, {177}, {1, 191}};
        for (int k = 0; k < ends.length; k++) {
            Kit kit = new Kit();
            int last = kit.made(0, results[k], 2, 0, ends[k]);
            Check.same("as the last one: " + Arrays.toString(ends[k]), kit.frames(last), "");
            int middle = kit.made(0, results[k], 2, 0, join(ends[k], ends[k]));
            Check.same("with dead code behind: " + Arrays.toString(ends[k]), kit.frames(middle),
                64 + ends[k].length + " 7 0 1");
            int[] over = {3, 153, 0, 3 + ends[k].length};
            int jumped = kit.made(0, results[k], 2, 0, join(join(over, ends[k]), ends[k]));
            Check.same("jumped over: " + Arrays.toString(ends[k]), kit.frames(jumped), 4 + ends[k].length);
        }
        due("3", 0, 167, 0, 3, 177);
        due("3 64 7 0 1", 0, 167, 0, 3, 177, 0);
        due("0 66 7 0 1", 0, 167, 0, 0, 0);
    }

    /** SAME locals, no stack: one byte D if that is below 64, else 251, D (two bytes); of the first its place. */
    private static void distance() {
        for (int place : new int[] {4, 5, 62, 63, 64, 65, 118, 119}) {
            int[] code = spread(new int[] {3, 153, 0, place - 1}, place - 4, 177);
            due(place < 64 ? String.valueOf(place) : "251 0 " + place, 0, code);
            due(place < 64 ? String.valueOf(place) : "251 0 " + place, 0x0102, code);
        }
        // the second one: its place less that of the one before and 1
        for (int more : new int[] {4, 5, 63, 64, 65, 66, 110}) {
            int[] code = spread(new int[] {3, 153, 0, 3, 3, 153, 0, more - 1}, more - 4, 177);
            due("4 " + (more - 1 < 64 ? String.valueOf(more - 1) : "251 0 " + (more - 1)), 0, code);
        }
        // one right behind the other
        due("8 0", 0, 3, 153, 0, 7, 3, 153, 0, 4, 0, 177);
        due("0 0", 0, 0, 3, 153, 255, 255, 3, 153, 255, 250, 177);
    }

    /** SAME locals, one on the stack: 64 + D if D is below 64, else 247, D, then that. */
    private static void distanceOfOneOnTheStack() {
        for (int place : new int[] {5, 63, 64, 118}) {
            int[] code = spread(new int[] {3, 3, 153, 0, place - 2}, place - 5, 87, 177);
            due(place < 64 ? 64 + place + " 1" : "247 0 " + place + " 1", 0, code);
            int[] wide = spread(new int[] {9, 3, 153, 0, place - 2}, place - 5, 88, 177);
            due(place < 64 ? 64 + place + " 4" : "247 0 " + place + " 4", 1, wide);
        }
        due("65 1", 0, 3, 0, 3, 153, 255, 254, 177);
        due("255 0 6 0 0 0 2 1 1", 0, 3, 3, 3, 153, 0, 3, 177);
        due("255 0 6 0 0 0 2 4 1", 0, 9, 3, 3, 153, 0, 3, 177);
    }

    /** No stack, and the last 1 to 3 of the locals before missing: 251 - how many, D. */
    private static void missing() {
        int[] all = {3, 54, 0, 3, 54, 1, 3, 54, 2, 3, 54, 3, 3, 54, 4};
        for (int many = 0; many <= 5; many++) {
            int[] code = join(all, 3, 153, 0, 3);
            int[] lose = new int[0];
            for (int k = 5 - many; k < 5; k++) {
                lose = join(lose, 1, 58, k);
            }
            // one branch loses the last ones, the other does not: their merge is TOP
            code = join(code, join(new int[] {3, 153, 0, lose.length + 3}, join(lose, 177)));
            String first = "255 0 19 0 5 1 1 1 1 1 0 0 ";
            String second = many == 0 ? "3" : many < 4 ? 251 - many + " 0 " + (3 + 3 * many)
                : many == 4 ? "255 0 15 0 1 1 0 0" : "255 0 18 0 0 0 0";
            due(first + second, 0, code);
        }
        // the first frame, far on, of a method with four arguments
        for (int many = 1; many <= 4; many++) {
            int[] lose = new int[0];
            for (int k = 4 - many; k < 4; k++) {
                lose = join(lose, 1, 58, k);
            }
            int place = 4 + 70 + lose.length;
            int[] code = spread(new int[] {3, 153, 0, place - 1}, 70, join(lose, 177));
            due(many < 4 ? 251 - many + " 0 " + place : "255 0 " + place + " 0 0 0 0", 0x01010101, code);
        }
        // a LONG is one that is missing
        due("250 0 10", 0x0201, 3, 153, 0, 9, 3, 54, 1, 3, 54, 2, 177);
        // one missing, and one on the stack
        due("255 0 8 0 0 0 1 1", 1, 3, 3, 153, 0, 6, 1, 58, 0, 177);
    }

    /** No stack, 1 to 3 more: 251 + how many, D, these. */
    private static void more() {
        String[] frames = {"3", "252 0 6 1", "253 0 9 1 1", "254 0 12 1 1 1", "255 0 15 0 4 1 1 1 1 0 0",
            "255 0 18 0 5 1 1 1 1 1 0 0"};
        String[] behind = {"3", "252 0 6 1", "253 0 9 1 1", "254 0 12 1 1 1", "255 0 15 0 5 4 1 1 1 1 0 0",
            "255 0 18 0 6 4 1 1 1 1 1 0 0"};
        for (int many = 0; many <= 5; many++) {
            int[] store = new int[0];
            int[] later = new int[0];
            for (int k = 0; k < many; k++) {
                store = join(store, 3, 54, k);
                later = join(later, 3, 54, k + 2);
            }
            due(frames[many], 0, join(store, 167, 0, 3, 177));
            due(behind[many], 2, join(later, 167, 0, 3, 177));
        }
        due("252 0 6 4", 0, 9, 55, 0, 167, 0, 3, 177);
        due("254 0 12 4 4 4", 0, 9, 55, 0, 9, 55, 2, 9, 55, 4, 167, 0, 3, 177);
        due("252 0 86 1", 0, spread(new int[] {3, 54, 0}, 80, 167, 0, 3, 177));
        // more, and one on the stack
        due("255 0 8 0 1 1 0 1 1", 0, 3, 54, 0, 3, 3, 153, 0, 3, 177);
        // a TOP between is one of those
        due("253 0 6 0 1", 0, 3, 54, 1, 167, 0, 3, 177);
        due("254 0 6 0 0 1", 0, 3, 54, 2, 167, 0, 3, 177);
        due("255 0 6 0 4 0 0 0 1 0 0", 0, 3, 54, 3, 167, 0, 3, 177);
    }

    /** .. else 255, D, how many locals (two bytes), these, how many on the stack (two), these. */
    private static void others() {
        due("255 0 6 0 1 5 0 0", 1, 1, 58, 0, 167, 0, 3, 177);
        due("255 0 6 0 2 5 1 0 0", 0x0101, 1, 58, 0, 167, 0, 3, 177);
        due("255 0 6 0 2 1 5 0 0", 0x0101, 1, 58, 1, 167, 0, 3, 177);
        // the first local is lost, the second is not: a TOP ahead is no end
        due("255 0 12 0 2 0 1 0 0", 0x0101, 3, 153, 0, 11, 1, 58, 0, 0, 0, 0, 0, 0, 177);
        // as long as before, but another one: a LONG for two INTs
        due("255 0 6 0 1 4 0 0", 0x0101, 9, 55, 0, 167, 0, 3, 177);
        due("255 0 6 0 2 4 1 0 0", 0x010101, 9, 55, 0, 167, 0, 3, 177);
    }

    /** TOPs at the end are left out, a LONG is one. */
    private static void lastTops() {
        due("3", 1, 167, 0, 3, 177);
        due("3", 2, 167, 0, 3, 177);
        due("3", 0x02020202, 167, 0, 3, 177);
        due("252 0 6 4", 0x02020202, 9, 55, 8, 167, 0, 3, 177);
        due("252 0 6 4", 0x0102, 9, 55, 3, 167, 0, 3, 177);
        due("255 0 6 0 9 4 0 0 0 0 0 0 0 4 0 0", 2, 9, 55, 9, 167, 0, 3, 177);
        // a LONG that is lost leaves two TOPs, which are left out
        due("250 0 7", 0x0202, 3, 153, 0, 6, 3, 54, 2, 177);
        due("250 0 7", 0x0202, 3, 153, 0, 6, 3, 54, 3, 177);
        // one ahead of another leaves two TOPs that are not
        due("255 0 7 0 3 0 0 4 0 0", 0x0202, 3, 153, 0, 6, 3, 54, 1, 177);
    }

    /** A type: 0 TOP, 1 INT, 4 LONG, 5 NULL, 7 and two bytes .., 8 and the place of the new (two). */
    private static void types() {
        int[][] pushed = {{3}, {9}, {1}, {1, 192, 0}, {1, 192, 15}, {3, 189, 0}, {3, 189, 15}, {3, 188, 10}, {3, 188, 11},
            {187, 15}};
        String[] written = {"1", "4", "5", "7 0 0", "7 0 15", "7 1 0", "7 1 15", "7 2 3", "7 2 4", "8 0 0"};
        for (int k = 0; k < pushed.length; k++) {
            Kit kit = new Kit();
            for (int c = 2; c < 16; c++) {
                kit.framer.cls(0, false);
            }
            int method = kit.made(0, 0, 3, 2, join(pushed[k], 3, 153, 0, 3, 177));
            Check.same("on the stack: " + written[k], kit.frames(method), 68 + pushed[k].length + " " + written[k]);
            int store = k == 0 ? 54 : k == 1 ? 55 : 58;
            int local = kit.made(0, 0, 3, 2, join(pushed[k], store, 0, 3, 153, 0, 3, 177));
            Check.same("in a local: " + written[k], kit.frames(local), "252 0 " + (6 + pushed[k].length) + " " + written[k]);
        }
        due("247 0 117 8 0 111", 0, spread(new int[0], 111, 187, 1, 3, 153, 0, 3, 177));
    }

    /** The most that a frame can hold: twelve locals, twelve on the stack. */
    private static void longest() {
        int[] code = new int[0];
        for (int k = 0; k < 12; k++) {
            code = join(code, 1, 58, k);
        }
        code = spread(code, 28);
        for (int k = 0; k < 11; k++) {
            code = join(code, 1);
        }
        code = join(code, 3, 154, 0, 3, 177);
        Kit kit = new Kit();
        int method = kit.made(0, 0, 12, 12, code);
        Check.same("eleven on the stack", kit.frames(method),
            "255 0 79 0 12 5 5 5 5 5 5 5 5 5 5 5 5 0 11 5 5 5 5 5 5 5 5 5 5 5");
        int[] twelve = join(Arrays.copyOf(code, 75), 1, 167, 0, 3, 177);
        int full = kit.made(0, 0, 12, 12, twelve);
        Check.same("twelve on the stack", kit.frames(full),
            "255 0 79 0 12 5 5 5 5 5 5 5 5 5 5 5 5 0 12 5 5 5 5 5 5 5 5 5 5 5 5");
        // a frame of all locals, then nineteen that are the same
        int[] many = new int[0];
        for (int k = 0; k < 6; k++) {
            many = join(many, 1, 192, 1, 58, 2 * k);
        }
        for (int k = 0; k < 20; k++) {
            many = join(many, 167, 0, 3);
        }
        many = join(many, 177);
        int longest = kit.made(0, 0, 12, 12, many);
        Check.same("frames", kit.framer.about(longest, 8), 20);
        Check.same("bytes", kit.framer.about(longest, 4), 3 + 2 + 5 + 18 + 2 + 19);
    }
}
