import java.util.Arrays;

/**
 * The sentences under "Terms" that name a boundary case of code, one by one: places and operands that are the last good
 * or the first bad ones, stacks and locals that are just full, and which fault comes first.
 */
final class TermsTest {
    private static final int[] BRANCHES = {153, 154, 155, 156, 157, 158, 159, 160, 161, 162, 163, 164, 165, 166, 167,
        198, 199};

    public static void main(String[] args) {
        longOnTheStack();
        fullStack();
        emptyStack();
        lastLocals();
        longInLocals();
        partedLongs();
        noLongParted();
        noSuchInstruction();
        bytesBehindTheCode();
        lastMembers();
        membersOfTheWrongKind();
        methodsWithoutCode();
        byPlaces();
        branchPlaces();
        branchesComeBehind();
        handlerPlaces();
        handlersByNumber();
        handlerAndMaxStack();
        handlerLocals();
        handlerOrder();
        behindTheEnd();
        inItsOrder();
        leastPlaceFirst();
        differentStacks();
        lookedAtAgain();
        uninitialized();
        uninitializedIsNoReference();
        beginUnderHandler();
        takenNull();
        lengthOf();
        results();
        Check.end("TermsTest");
    }

    private static String fault(int maxStack, int maxLocals, int result, int... code) {
        Kit kit = new Kit();
        return kit.fault(kit.made(0, result, maxStack, maxLocals, code));
    }

    private static void due(String fault, int maxStack, int maxLocals, int... code) {
        Check.same("MAXSTACK " + maxStack + ", MAXLOCALS " + maxLocals + ", " + Arrays.toString(code),
            fault(maxStack, maxLocals, 0, code), fault);
    }

    private static int[] join(int[] ahead, int... behind) {
        int[] all = Arrays.copyOf(ahead, ahead.length + behind.length);
        System.arraycopy(behind, 0, all, ahead.length, behind.length);
        return all;
    }

    /** So many of one byte, then the rest. */
    private static int[] many(int times, int one, int... behind) {
        int[] all = new int[times];
        Arrays.fill(all, one);
        return join(all, behind);
    }

    /** The stack (a LONG counts two of MAXSTACK). */
    private static void longOnTheStack() {
        due("7 at 0", 0, 0, 9, 177);
        due("7 at 0", 1, 0, 9, 177);
        due("none", 2, 0, 9, 177);
        due("7 at 1", 2, 0, 3, 9, 177);
        due("none", 3, 0, 3, 9, 177);
        due("7 at 1", 3, 0, 9, 10, 177);
        due("none", 4, 0, 9, 10, 177);
        due("7 at 1", 1, 0, 3, 133, 177);
        due("none", 2, 0, 3, 133, 177);
        due("7 at 1", 3, 0, 9, 92, 177);
        due("none", 4, 0, 9, 92, 177);
        due("none", 12, 0, many(6, 9, 177));
        due("7 at 6", 12, 0, many(7, 9, 177));
        due("7 at 6", 12, 0, many(6, 9, 3, 177));
        due("7 at 11", 12, 0, many(11, 3, 9, 177));
        for (int most = 0; most <= 2; most++) {
            Kit kit = new Kit();
            kit.framer.field(1, 2, true);
            Check.same("a LONG field and MAXSTACK " + most, kit.fault(kit.made(0, 0, most, 0, 178, 0, 177)),
                most < 2 ? "7 at 0" : "none");
        }
    }

    /** 7 more on the stack than MAXSTACK. */
    private static void fullStack() {
        due("none", 12, 0, many(12, 3, 177));
        due("7 at 12", 12, 0, many(13, 3, 177));
        int[] pushing = {1, 2, 3, 4, 5, 6, 7, 8};
        for (int op : pushing) {
            due("7 at 0", 0, 0, op, 177);
            due("none", 1, 0, op, 177);
            due("7 at 1", 1, 0, 3, op, 177);
        }
        due("7 at 0", 0, 0, 16, 1, 177);
        due("7 at 0", 0, 0, 17, 0, 1, 177);
        due("7 at 0", 0, 0, 187, 1, 177);
        due("7 at 4", 1, 1, 3, 54, 0, 3, 21, 0, 177);
        due("7 at 4", 1, 1, 1, 58, 0, 3, 25, 0, 177);
        due("7 at 1", 1, 0, 3, 89, 177);
        due("none", 2, 0, 3, 89, 177);
        due("7 at 2", 2, 0, 3, 3, 90, 177);
        due("none", 3, 0, 3, 3, 90, 177);
        due("7 at 2", 3, 0, 3, 3, 92, 177);
        due("none", 4, 0, 3, 3, 92, 177);
        due("none", 2, 0, 3, 3, 95, 177);
        due("none", 1, 0, 3, 188, 10, 190, 87, 177);
        due("none", 1, 0, 1, 192, 1, 193, 1, 87, 177);
        due("none", 0, 0, 177);
    }

    /** 6 something popped is not there. */
    private static void emptyStack() {
        for (int op : new int[] {46, 47, 50, 79, 80, 83, 87, 88, 89, 90, 92, 95, 96, 97, 100, 101, 104, 105, 108, 109,
            133, 136, 148, 190, 191}) {
            due("6 at 0", 4, 4, op, 177);
        }
        for (int op : new int[] {54, 55, 58, 183, 192, 193, 189}) {
            due("6 at 0", 4, 4, op, 1, 177);
        }
        due("6 at 0", 4, 4, 188, 10, 177);
        for (int op : BRANCHES) {
            due(op == 167 ? "none" : "6 at 0", 4, 4, op, 0, 3, 177);
        }
        // one of two is there
        for (int op : new int[] {88, 90, 92, 95, 96, 100, 104, 108}) {
            due("6 at 1", 4, 4, 3, op, 177);
        }
        for (int op : new int[] {97, 101, 105, 109, 148}) {
            due("6 at 1", 4, 4, 9, op, 177);
        }
        for (int op = 159; op <= 164; op++) {
            due("6 at 1", 4, 4, 3, op, 0, 3, 177);
        }
        due("6 at 1", 4, 4, 1, 165, 0, 3, 177);
        due("6 at 1", 4, 4, 1, 166, 0, 3, 177);
        due("6 at 1", 4, 4, 3, 46, 177);
        due("6 at 2", 4, 4, 3, 3, 79, 177);
        due("6 at 2", 4, 4, 3, 9, 80, 177);
        due("6 at 2", 4, 4, 3, 1, 83, 177);
        Check.same("172", fault(1, 0, 1, 172), "6 at 0");
        Check.same("173", fault(1, 0, 2, 173), "6 at 0");
        Check.same("176", fault(1, 0, 32, 176), "6 at 0");
    }

    /** 2 a local number beyond MAXLOCALS (22, 55: its second one, too). */
    private static void lastLocals() {
        for (int most : new int[] {0, 1, 2, 11, 12}) {
            for (int op : new int[] {21, 25, 54, 58}) {
                due("2 at 0", 4, most, op, most, 177);
                due("2 at 0", 4, most, op, 255, 177);
                due(most == 0 ? "2 at 0" : "6 at 0", 4, most, op, Math.max(0, most - 1), 177);
            }
            due("2 at 0", 4, most, 132, most, 1, 177);
            due(most == 0 ? "2 at 0" : "6 at 0", 4, most, 132, Math.max(0, most - 1), 1, 177);
            for (int op : new int[] {22, 55}) {
                due("2 at 0", 4, most, op, most, 177);
                due("2 at 0", 4, most, op, Math.max(0, most - 1), 177);
                due(most < 2 ? "2 at 0" : "6 at 0", 4, most, op, Math.max(0, most - 2), 177);
                due("2 at 0", 4, most, op, 255, 177);
            }
        }
    }

    /** Locals, one for each number below MAXLOCALS (a LONG takes two, the second one TOP). */
    private static void longInLocals() {
        Kit kit = new Kit();
        int last = kit.made(0, 0, 2, 12, 9, 55, 10, 22, 10, 177);
        Check.same("in the last two", kit.types(last, 3), "0 0 0 0 0 0 0 0 0 0 2 0 |");
        due("6 at 3", 2, 2, 9, 55, 0, 21, 1, 177);
        due("6 at 3", 2, 2, 9, 55, 0, 25, 1, 177);
        due("6 at 3", 2, 3, 9, 55, 0, 22, 1, 177);
        due("6 at 3", 2, 2, 9, 55, 0, 132, 1, 1, 177);
        int all = kit.made(0x02020202, 0, 2, 8, 177);
        Check.same("four LONGs", kit.types(all, 0), "2 0 2 0 2 0 2 0 |");
    }

    /** Of a LONG that loses one of its two locals by that, the other one is TOP. */
    private static void partedLongs() {
        int[][] stores = {{3, 54}, {1, 58}, {9, 55}};
        int[] stored = {1, 5, 2};
        for (int k = 0; k < 3; k++) {
            Kit kit = new Kit();
            int second = kit.made(0, 0, 2, 4, 9, 55, 1, stores[k][0], stores[k][1], 2, 177);
            Check.same("the second by " + stores[k][1], kit.types(second, 6), "0 0 " + stored[k] + " 0 |");
            int first = kit.made(0, 0, 2, 4, 9, 55, 1, stores[k][0], stores[k][1], 1, 177);
            Check.same("the first by " + stores[k][1], kit.types(first, 6), "0 " + stored[k] + " 0 0 |");
            int third = kit.made(0, 0, 2, 5, 9, 55, 1, stores[k][0], stores[k][1], 3, 177);
            Check.same("none by " + stores[k][1], kit.types(third, 6), "0 2 0 " + stored[k] + " 0 |");
        }
        Kit kit = new Kit();
        int ahead = kit.made(0, 0, 2, 4, 9, 55, 1, 9, 55, 0, 177);
        Check.same("the first by a LONG ahead", kit.types(ahead, 6), "2 0 0 0 |");
        int both = kit.made(0, 0, 2, 4, 9, 55, 0, 9, 55, 2, 9, 55, 1, 177);
        Check.same("one of each of two", kit.types(both, 9), "0 2 0 0 |");
        int least = kit.made(0, 0, 2, 2, 9, 55, 0, 3, 54, 0, 177);
        Check.same("at local 0", kit.types(least, 6), "1 0 |");
        int last = kit.made(0, 0, 2, 2, 9, 55, 0, 3, 54, 1, 177);
        Check.same("at the last local", kit.types(last, 6), "0 1 |");
        due("6 at 6", 2, 2, 9, 55, 0, 3, 54, 1, 22, 0, 177);
    }

    /** None of these parts a LONG; 90, 95 take none. */
    private static void noLongParted() {
        due("6 at 1", 12, 0, 9, 87, 177);
        due("none", 12, 0, 9, 88, 177);
        due("6 at 2", 12, 0, 9, 3, 88, 177);
        due("none", 12, 0, 3, 9, 88, 87, 177);
        due("6 at 1", 12, 0, 9, 89, 177);
        due("6 at 2", 12, 0, 9, 3, 90, 177);
        due("6 at 2", 12, 0, 3, 9, 90, 177);
        due("6 at 2", 12, 0, 9, 9, 90, 177);
        due("none", 12, 0, 9, 92, 97, 88, 177);
        due("6 at 2", 12, 0, 9, 3, 92, 177);
        due("none", 12, 0, 3, 9, 92, 97, 88, 87, 177);
        due("6 at 2", 12, 0, 9, 3, 95, 177);
        due("6 at 2", 12, 0, 3, 9, 95, 177);
        due("6 at 2", 12, 0, 9, 9, 95, 177);
    }

    /** 1 no such instruction. */
    private static void noSuchInstruction() {
        for (int op : new int[] {11, 15, 18, 20, 23, 24, 26, 45, 48, 49, 51, 53, 56, 57, 59, 78, 81, 82, 84, 86, 91, 93,
            94, 98, 99, 102, 103, 106, 107, 110, 131, 134, 135, 137, 147, 149, 152, 168, 171, 174, 175, 182, 185, 186,
            194, 197, 200, 201, 254, 255}) {
            due("1 at 0", 12, 12, op, 0, 0, 177);
            due("1 at 1", 12, 12, 177, op, 0, 0);
            due("1 at 3", 12, 12, 177, 0, 0, op);
        }
    }

    /** 1 .. or its bytes end behind the code. */
    private static void bytesBehindTheCode() {
        for (int op : new int[] {16, 21, 22, 25, 54, 55, 58, 178, 179, 180, 181, 183, 184, 187, 188, 189, 192, 193}) {
            due("1 at 0", 12, 12, op);
            due("1 at 1", 12, 12, 177, op);
        }
        for (int op : join(BRANCHES, 17, 132)) {
            due("1 at 0", 12, 12, op);
            due("1 at 0", 12, 12, op, 0);
            due("1 at 1", 12, 12, 177, op, 0);
        }
        due("1 at 119", 12, 12, many(119, 0, 16));
        due("1 at 118", 12, 12, many(118, 0, 17, 0));
        due("8 at 118", 12, 12, many(118, 0, 16, 0));
        due("8 at 117", 12, 12, many(117, 0, 17, 0, 0));
        due("none", 12, 12, many(119, 0, 177));
    }

    /** 3 a field, class, method, array kind that there is not. */
    private static void lastMembers() {
        for (int kind : new int[] {0, 1, 9, 12, 255}) {
            due("3 at 1", 4, 0, 3, 188, kind, 177);
        }
        due("none", 4, 0, 3, 188, 10, 177);
        due("none", 4, 0, 3, 188, 11, 177);
        for (int op : new int[] {187, 183, 189, 192, 193}) {
            due("3 at 0", 4, 0, op, 2, 177);
            due("3 at 0", 4, 0, op, 255, 177);
            due(op == 187 ? "none" : "6 at 0", 4, 0, op, 1, 177);
            Kit kit = new Kit();
            for (int c = 2; c < 16; c++) {
                kit.framer.cls(0, false);
            }
            Check.same("class 16", kit.fault(kit.made(0, 0, 4, 0, op, 16, 177)), "3 at 0");
            Check.same("class 15", kit.fault(kit.made(0, 0, 4, 0, op, 15, 177)), op == 187 ? "none" : "6 at 0");
        }
        for (int op : new int[] {178, 179, 180, 181}) {
            due("3 at 0", 4, 0, op, 0, 177);
            due("3 at 0", 4, 0, op, 255, 177);
            Kit kit = new Kit();
            for (int k = 0; k < 16; k++) {
                kit.framer.field(1, 1, op < 180);
            }
            Check.same("field 16", kit.fault(kit.made(0, 0, 4, 0, op, 16, 177)), "3 at 0");
            Check.same("field 15", kit.fault(kit.made(0, 0, 4, 0, op, 15, 177)), op == 178 ? "none" : "6 at 0");
        }
        due("3 at 0", 4, 0, 184, 1, 177);
        due("3 at 0", 4, 0, 184, 8, 177);
        due("3 at 0", 4, 0, 184, 255, 177);
        due("none", 4, 0, 184, 0, 177);
    }

    /** 3 .. of 178 to 181 not static or static, of 187, 183 an interface. */
    private static void membersOfTheWrongKind() {
        for (int op : new int[] {178, 179, 180, 181}) {
            Kit kit = new Kit();
            kit.framer.field(1, 1, true);
            kit.framer.field(1, 1, false);
            int right = op < 180 ? 0 : 1;
            String due = op == 178 ? "none" : "6 at 0";
            Check.same("of the kind of " + op, kit.fault(kit.made(0, 0, 4, 0, op, right, 177)), due);
            Check.same("not of the kind of " + op, kit.fault(kit.made(0, 0, 4, 0, op, 1 - right, 177)), "3 at 0");
        }
        Kit kit = new Kit();
        kit.framer.cls(0, true);
        Check.same("187 of an interface", kit.fault(kit.made(0, 0, 4, 0, 187, 2, 177)), "3 at 0");
        Check.same("183 of an interface", kit.fault(kit.made(0, 0, 4, 0, 183, 2, 177)), "3 at 0");
        Check.same("189 of an interface", kit.fault(kit.made(0, 0, 4, 0, 3, 189, 2, 177)), "none");
        Check.same("192 of an interface", kit.fault(kit.made(0, 0, 4, 0, 1, 192, 2, 177)), "none");
        Check.same("193 of an interface", kit.fault(kit.made(0, 0, 4, 0, 1, 193, 2, 177)), "none");
    }

    /** 3 .. of 184 one without code told (its own is told). */
    private static void methodsWithoutCode() {
        Kit kit = new Kit();
        kit.framer.method(0, 0);
        Check.same("without code", kit.fault(kit.made(0, 0, 0, 0, 184, 0, 177)), "3 at 0");
        Check.same("its own", kit.fault(kit.made(0, 0, 0, 0, 184, 2, 177)), "none");
        kit.code(0, 0, 0, 177);
        Check.same("with code that was not verified", kit.fault(kit.made(0, 0, 0, 0, 184, 0, 177)), "none");
        int early = kit.told(0, 0, 0, 0, 184, 5, 177);
        int later = kit.told(0, 0, 0, 0, 255);
        kit.verify(later);
        kit.verify(early);
        Check.same("told behind it, and with a fault", kit.fault(early), "none");
        Check.same("that one's fault", kit.fault(later), "1 at 0");
    }

    /** FAULTS of code, the first of these .. By places from 0 on: 1, 2, 3. */
    private static void byPlaces() {
        int[][] bad = {{255}, {21, 4}, {187, 9}};
        for (int first = 0; first < 3; first++) {
            for (int second = 0; second < 3; second++) {
                due(first + 1 + " at 1", 4, 4, join(join(new int[] {0}, bad[first]), bad[second]));
            }
            due(first + 1 + " at 0", 4, 4, join(bad[first], 87, 167, 0, 1));
            due(first + 1 + " at 4", 4, 4, join(new int[] {87, 167, 0, 1}, bad[first]));
        }
        due("2 at 0", 4, 4, 21, 4, 16);
        due("1 at 0", 4, 4, 21);
        due("1 at 0", 4, 4, 132, 4);
        due("1 at 1", 4, 4, 177, 188);
    }

    /** By places again: 4 a branch not to an instruction's beginning. */
    private static void branchPlaces() {
        for (int op : BRANCHES) {
            due("4 at 1", 4, 4, 177, op, 0, 1, 16, 9, 177);
            due("4 at 1", 4, 4, 177, op, 0, 2, 16, 9, 177);
            due("none", 4, 4, 177, op, 0, 0, 16, 9, 177);
            due("none", 4, 4, 177, op, 0, 3, 16, 9, 177);
            due("4 at 1", 4, 4, 177, op, 0, 4, 16, 9, 177);
            due("none", 4, 4, 177, op, 0, 5, 16, 9, 177);
            due("4 at 1", 4, 4, 177, op, 0, 6, 16, 9, 177);
            due("4 at 1", 4, 4, 177, op, 0, 7, 16, 9, 177);
            due("none", 4, 4, 177, op, 255, 255, 16, 9, 177);
            due("4 at 1", 4, 4, 177, op, 255, 254, 16, 9, 177);
            due("4 at 1", 4, 4, 177, op, 127, 255, 16, 9, 177);
            due("4 at 1", 4, 4, 177, op, 128, 0, 16, 9, 177);
            due("4 at 1", 4, 4, 177, op, 1, 3, 16, 9, 177);
        }
        int[] far = many(120, 0);
        far[0] = 167;
        far[2] = 119;
        far[119] = 177;
        due("none", 0, 0, far);
        far[2] = 120;
        due("4 at 0", 0, 0, far);
        int[] back = many(120, 0);
        back[117] = 167;
        back[118] = 255;
        back[119] = 256 - 117;
        due("none", 0, 0, back);
        back[119] = 255 - 117;
        due("4 at 117", 0, 0, back);
    }

    /** The faults 1 to 3 of all places come ahead of 4, and the first place of 4 comes first. */
    private static void branchesComeBehind() {
        due("4 at 0", 4, 4, 167, 0, 1, 167, 0, 1);
        due("4 at 3", 4, 4, 167, 0, 0, 167, 0, 1);
        due("2 at 3", 4, 4, 167, 0, 1, 21, 4);
        due("3 at 3", 4, 4, 167, 0, 1, 184, 4);
        due("1 at 3", 4, 4, 167, 0, 1, 16);
    }

    private static String handled(int from, int to, int place, int... code) {
        Kit kit = new Kit();
        int method = kit.told(0, 0, 1, 1, code);
        kit.framer.handler(method, from, to, place, 1);
        kit.verify(method);
        return kit.fault(method);
    }

    /** 5 from not less than to, or one of from, place no beginning of an instruction, or to neither a beginning nor the end. */
    private static void handlerPlaces() {
        // beginnings at 0, 1, 3, 4; the end is 5
        int[] code = {177, 16, 0, 87, 177};
        boolean[] begins = {true, true, false, true, true, false, false};
        for (int from = 0; from <= 6; from++) {
            for (int to = 0; to <= 6; to++) {
                boolean isGood = from < to && begins[from] && (begins[to] || to == 5);
                Check.same("from " + from + " to " + to, handled(from, to, 3, code), isGood ? "none" : "5 at 0");
            }
        }
        for (int place = 0; place <= 6; place++) {
            Check.same("place " + place, handled(1, 5, place, code), begins[place] ? "none" : "5 at 0");
        }
        Check.same("120", handled(0, 120, 119, many(119, 0, 177)), "9 at 119");
        Check.same("120", handled(119, 120, 0, many(119, 0, 177)), "9 at 0");
        Check.same("120", handled(120, 120, 0, many(119, 0, 177)), "5 at 0");
        Check.same("120", handled(0, 119, 120, many(119, 0, 177)), "5 at 0");
    }

    /** By handlers, with their numbers. */
    private static void handlersByNumber() {
        for (int bad = 0; bad < 6; bad++) {
            Kit kit = new Kit();
            int method = kit.told(0, 0, 1, 0, 87, 177);
            for (int k = 0; k < 6; k++) {
                kit.framer.handler(method, 0, k < bad ? 1 : 0, 0, 1);
            }
            kit.verify(method);
            Check.same("the first bad one is " + bad, kit.fault(method), "5 at " + bad);
        }
        Check.same("a branch comes first", handled(0, 0, 0, 167, 0, 1), "4 at 0");
        Check.same("flow comes behind", handled(0, 0, 0, 87), "5 at 0");
    }

    /** And on the stack the object of its class alone (7 if MAXSTACK is 0). */
    private static void handlerAndMaxStack() {
        int[] stacks = {0, 1};
        for (int most : stacks) {
            Kit kit = new Kit();
            int method = kit.told(0, 0, most, 0, 0, 0, 177, 177);
            kit.framer.handler(method, 1, 2, 3, 1);
            kit.verify(method);
            Check.same("MAXSTACK " + most, kit.fault(method), most == 0 ? "7 at 1" : "none");
        }
        Kit kit = new Kit();
        int full = kit.told(0, 0, 2, 0, 3, 3, 0, 177, 177);
        kit.framer.handler(full, 2, 3, 4, 1);
        kit.verify(full);
        Check.same("a full stack is emptied", kit.types(full, 4), "| 33");
        int dead = kit.told(0, 0, 0, 0, 177, 0, 177);
        kit.framer.handler(dead, 1, 3, 0, 1);
        kit.verify(dead);
        Check.same("a handler that nothing comes to", kit.fault(dead), "none");
        Check.same("MAXSTACK of dead code", kit.framer.about(dead, 6), 1);
        int bad = kit.told(0, 0, 0, 0, 87, 177);
        kit.framer.handler(bad, 0, 1, 1, 1);
        kit.verify(bad);
        Check.same("6 comes ahead of it", kit.fault(bad), "6 at 0");
    }

    /** For each handler with from <= place < to: the locals ahead of the instruction (then, of 54, 55, 58, those behind it). */
    private static void handlerLocals() {
        int[] code = {0, 3, 54, 0, 0, 177, 177};
        String[][] due = {{"0", "1"}, {"0", "2"}, {"1", "2"}, {"1", "4"}, {"2", "4"}, {"4", "5"}, {"5", "6"}, {"2", "5"}};
        String[] types = {"0 |", "0 |", "0 |", "0 |", "0 |", "1 |", "1 |", "0 |"};
        for (int k = 0; k < due.length; k++) {
            Kit kit = new Kit();
            int method = kit.told(0, 0, 1, 1, code);
            kit.framer.handler(method, Integer.parseInt(due[k][0]), Integer.parseInt(due[k][1]), 6, 1);
            kit.verify(method);
            Check.same("from " + due[k][0] + " to " + due[k][1], kit.types(method, 6), types[k] + " 33");
        }
        Kit kit = new Kit();
        int[][] stores = {{3, 54, 0}, {9, 55, 0}, {1, 58, 0}};
        for (int[] store : stores) {
            int method = kit.told(0, 0, 2, 2, join(join(store, store), 177, 177));
            kit.framer.handler(method, 4, 6, 7, 1);
            kit.verify(method);
            String same = store[1] == 54 ? "1 0 | 33" : store[1] == 55 ? "2 0 | 33" : "5 0 | 33";
            Check.same("the same ahead of " + store[1] + " and behind it", kit.types(method, 7), same);
            int other = kit.told(0, 0, 2, 2, join(join(new int[] {3, 188, 10, 58, 0}, store), 177, 177));
            kit.framer.handler(other, 6, 8, 9, 1);
            kit.verify(other);
            Check.same("another one behind " + store[1], kit.types(other, 9), store[1] == 58 ? "3 0 | 33" : "0 0 | 33");
        }
        int increased = kit.told(1, 0, 2, 1, 132, 0, 1, 177, 177);
        kit.framer.handler(increased, 0, 3, 4, 1);
        kit.verify(increased);
        Check.same("132 keeps the type", kit.types(increased, 4), "1 | 33");
    }

    /** The fault of code in which 10 and 11 have a state with nothing on the stack, with handlers of the places 8 and 9. */
    private static String clash(int[] places, int... rest) {
        Kit kit = new Kit();
        int method = kit.told(0, 0, 2, 0, join(new int[] {3, 153, 0, 9, 3, 153, 0, 6}, rest));
        for (int place : places) {
            kit.framer.handler(method, 8, 10, place, 1);
        }
        kit.verify(method);
        return kit.fault(method);
    }

    /** Then for each handler in order .. Then the next instruction .., then a branch's place, gets the state behind it. */
    private static void handlerOrder() {
        int[] none = {};
        Check.same("no handler", clash(none, 0, 177, 177, 177), "none");
        Check.same("10 first", clash(new int[] {10, 11}, 0, 177, 177, 177), "9 at 10");
        Check.same("11 first", clash(new int[] {11, 10}, 0, 177, 177, 177), "9 at 11");
        Check.same("the next instruction", clash(none, 0, 3, 177, 177), "9 at 10");
        Check.same("a handler comes ahead of it", clash(new int[] {11}, 3, 0, 177, 177), "9 at 11");
        Kit kit = new Kit();
        // behind 9 there is one too many for 12 and for 4
        int next = kit.made(0, 0, 3, 0, 3, 153, 0, 11, 0, 0, 0, 3, 3, 154, 255, 251, 177);
        Check.same("the next instruction comes ahead of the branch's place", kit.fault(next), "9 at 12");
        int back = kit.made(0, 0, 3, 0, 3, 153, 0, 12, 0, 0, 0, 3, 3, 154, 255, 251, 177, 177);
        Check.same("the branch's place", kit.fault(back), "9 at 4");
        due("9 at 2", 3, 0, 3, 3, 153, 0, 0, 177);
    }

    /** 8 it would go on behind the code's end. */
    private static void behindTheEnd() {
        due("8 at 0", 4, 4, 0);
        due("8 at 0", 4, 4, 16, 1);
        due("8 at 0", 4, 4, 17, 1, 1);
        due("8 at 1", 4, 4, 3, 153, 255, 255);
        due("8 at 0", 4, 4, 184, 0);
        due("none", 4, 4, 167, 0, 0);
        due("none", 4, 4, 177);
        due("none", 4, 4, 1, 191);
        Check.same("172", fault(1, 0, 1, 3, 172), "none");
        Check.same("173", fault(2, 0, 2, 9, 173), "none");
        Check.same("176", fault(1, 0, 32, 1, 176), "none");
        due("none", 4, 4, 177, 0);
        for (int op = 153; op <= 158; op++) {
            due("8 at 1", 4, 4, 3, op, 255, 255);
        }
        for (int op = 159; op <= 164; op++) {
            due("8 at 2", 4, 4, 3, 3, op, 255, 254);
        }
        due("8 at 2", 4, 4, 1, 1, 165, 255, 254);
        due("8 at 2", 4, 4, 1, 1, 166, 255, 254);
        due("8 at 1", 4, 4, 1, 198, 255, 255);
        due("8 at 1", 4, 4, 1, 199, 255, 255);
    }

    /** (In the order in which the instruction does it.) */
    private static void inItsOrder() {
        due("6 at 0", 0, 4, 21, 0);
        due("6 at 1", 1, 0, 1, 133);
        due("7 at 1", 1, 0, 3, 133);
        due("7 at 0", 0, 0, 3);
        due("8 at 0", 1, 0, 3);
        due("6 at 0", 0, 0, 89);
        due("6 at 0", 0, 1, 132, 0, 1);
        Kit kit = new Kit();
        int callee = kit.told(0x0101, 2, 2, 2, 9, 173);
        Check.same("arguments first", kit.fault(kit.made(0, 0, 2, 0, 3, 1, 184, callee)), "6 at 2");
        Check.same("then the result", kit.fault(kit.made(0, 0, 2, 0, 3, 3, 184, callee)), "8 at 2");
        int wide = kit.told(0, 2, 2, 0, 9, 173);
        Check.same("then the result", kit.fault(kit.made(0, 0, 1, 0, 184, wide)), "7 at 0");
        int behind = kit.told(0, 0, 0, 0, 0);
        kit.framer.handler(behind, 0, 1, 0, 1);
        kit.verify(behind);
        Check.same("8 comes ahead of the handlers", kit.fault(behind), "8 at 0");
    }

    /** Always the least place that is to be looked at is looked at. */
    private static void leastPlaceFirst() {
        // 4 and 5 are both to be looked at, and both have a fault
        due("6 at 4", 4, 0, 3, 153, 0, 4, 87, 87);
        due("6 at 5", 4, 0, 3, 153, 0, 4, 177, 87);
        // a branch back brings a lower place: that one's fault comes ahead of the one behind the branch
        due("9 at 0", 4, 0, 3, 3, 154, 255, 254, 88);
        due("6 at 3", 4, 1, 167, 0, 6, 87, 177, 0, 3, 153, 255, 252, 87);
    }

    /** 9 (at the place that gets it) stacks of different sizes, or a LONG at one that is no LONG (and no merge that is TOP on a stack). */
    private static void differentStacks() {
        due("9 at 0", 12, 0, 3, 167, 255, 255);
        due("9 at 1", 12, 0, 3, 3, 167, 255, 255);
        int[][] kinds = {{3}, {9}, {1}, {187, 1}, {3, 188, 10}, {3, 188, 11}, {3, 189, 1}, {1, 192, 1}};
        for (int a = 0; a < kinds.length; a++) {
            for (int b = 0; b < kinds.length; b++) {
                int[] ahead = join(join(new int[] {3, 153, 0, kinds[a].length + 6}, kinds[a]), 167, 0,
                    kinds[b].length + 3);
                int[] code = join(join(ahead, kinds[b]), 177);
                boolean areReferences = a != 3 && b != 3 && a > 1 && b > 1;
                String due = a == b && a != 3 || areReferences ? "none" : "9 at " + (code.length - 1);
                due(due, 4, 0, code);
            }
        }
        // one LONG and two INTs count the same of MAXSTACK
        due("9 at 9", 4, 0, 3, 153, 0, 7, 9, 167, 0, 4, 3, 3, 177);
        due("9 at 10", 4, 0, 3, 153, 0, 7, 9, 167, 0, 5, 3, 3, 177);
        due("none", 4, 2, 3, 153, 0, 9, 9, 55, 0, 167, 0, 6, 3, 54, 0, 177);
    }

    /** It is to be looked at, if that changes it. */
    private static void lookedAtAgain() {
        due("none", 4, 1, 1, 58, 0, 25, 0, 87, 167, 255, 253);
        due("6 at 3", 4, 1, 1, 58, 0, 25, 0, 87, 3, 54, 0, 167, 255, 250);
        Kit kit = new Kit();
        kit.framer.cls(0, false);
        kit.framer.field(2, 1, false);
        int array = kit.made(0, 0, 2, 1, 1, 58, 0, 25, 0, 180, 0, 87, 3, 188, 10, 58, 0, 167, 255, 246);
        Check.same("NULL, then an array", kit.fault(array), "6 at 5");
        int same = kit.made(0, 0, 2, 1, 1, 58, 0, 25, 0, 180, 0, 87, 1, 192, 2, 58, 0, 167, 255, 246);
        Check.same("NULL, then an object", kit.fault(same), "none");
        Check.same("what it came to", kit.types(same, 3), "34 |");
        // what changes is on the stack alone: its bottom, its top
        due("6 at 2", 4, 0, 1, 89, 190, 87, 87, 1, 192, 1, 167, 255, 249);
        due("6 at 3", 4, 0, 1, 1, 89, 190, 87, 87, 1, 192, 1, 167, 255, 249);
        due("6 at 4", 4, 0, 1, 1, 95, 89, 190, 87, 95, 87, 1, 192, 1, 95, 167, 255, 246);
        due("none", 4, 0, 1, 89, 190, 87, 87, 1, 3, 188, 10, 95, 87, 167, 255, 246);
    }

    /** 190: array, its length. */
    private static void lengthOf() {
        for (int[] array : new int[][] {{1}, {3, 188, 10}, {3, 188, 11}, {3, 189, 0}, {3, 189, 1}}) {
            due("none", 4, 0, join(array, 190, 87, 177));
        }
        for (int[] other : new int[][] {{3}, {9}, {187, 1}, {1, 192, 0}, {1, 192, 1}}) {
            due("6 at " + other.length, 4, 0, join(other, 190, 87, 177));
        }
    }

    /** 183 begin: pops an UNINITIALIZED of class i; all of the same in the state become objects of class i. */
    private static void uninitialized() {
        due("6 at 0", 4, 4, 183, 1, 177);
        due("6 at 1", 4, 4, 3, 183, 1, 177);
        due("6 at 1", 4, 4, 9, 183, 1, 177);
        due("6 at 1", 4, 4, 1, 183, 1, 177);
        due("6 at 3", 4, 4, 1, 192, 1, 183, 1, 177);
        due("6 at 2", 4, 4, 187, 1, 183, 0, 177);
        due("none", 4, 4, 187, 1, 183, 1, 177);
        due("none", 4, 4, 187, 0, 183, 0, 177);
        Kit kit = new Kit();
        int two = kit.made(0, 0, 6, 2, 187, 1, 89, 58, 0, 187, 1, 89, 58, 1, 183, 1, 177);
        Check.same("both, ahead", kit.types(two, 10), "1000 1005 | 1000 1005");
        Check.same("the one of 5", kit.types(two, 12), "1000 33 | 1000");
        int[] far = many(116, 0, 187, 1, 0, 177);
        int last = kit.made(0, 0, 1, 0, far);
        Check.same("by its place", kit.framer.typeAt(last, 118, 100), 1116);
        int loop = kit.made(0, 0, 1, 1, 187, 1, 58, 0, 167, 255, 252);
        Check.same("a local that it comes back with is TOP", kit.types(loop, 0), "0 |");
        due("6 at 0", 4, 1, 25, 0, 187, 1, 58, 0, 167, 255, 250);
        due("9 at 0", 4, 0, 187, 1, 167, 255, 254);
        due("9 at 1", 4, 0, 1, 187, 1, 95, 87, 167, 255, 252);
    }

    /** REFERENCES are NULL, objects, arrays: where one is wanted, UNINITIALIZED is none, but for 25 and 58. */
    private static void uninitializedIsNoReference() {
        int[] made = {187, 1};
        for (int op : new int[] {198, 199}) {
            due("6 at 2", 4, 1, join(made, op, 0, 3, 177));
        }
        for (int op : new int[] {165, 166}) {
            due("6 at 3", 4, 1, 1, 187, 1, op, 0, 3, 177);
            due("6 at 3", 4, 1, join(made, 1, op, 0, 3, 177));
            due("6 at 3", 4, 1, join(made, 89, op, 0, 3, 177));
        }
        for (int op : new int[] {192, 193}) {
            due("6 at 2", 4, 1, join(made, op, 0, 87, 177));
        }
        due("6 at 2", 4, 1, join(made, 190, 87, 177));
        due("6 at 2", 4, 1, join(made, 191));
        due("6 at 6", 4, 1, 3, 189, 0, 3, 187, 1, 83, 177);
        Check.same("176", fault(4, 1, 32, join(made, 176)), "6 at 2");
        due("none", 4, 1, join(made, 58, 0, 25, 0, 87, 177));
        Kit kit = new Kit();
        kit.framer.field(1, 1, false);
        kit.framer.field(1, 32, true);
        kit.told(32, 0, 0, 1, 177);
        Check.same("180", kit.fault(kit.made(0, 0, 4, 1, join(made, 180, 0, 87, 177))), "6 at 2");
        Check.same("181", kit.fault(kit.made(0, 0, 4, 1, join(made, 3, 181, 0, 177))), "6 at 3");
        Check.same("179", kit.fault(kit.made(0, 0, 4, 1, join(made, 179, 1, 177))), "6 at 2");
        Check.same("184", kit.fault(kit.made(0, 0, 4, 1, join(made, 184, 0, 177))), "6 at 2");
    }

    /** Its place gets the locals as they are ahead of the instruction: of 183, too, those alone. */
    private static void beginUnderHandler() {
        int[] code = {187, 1, 89, 58, 0, 183, 1, 0, 177, 177};
        int[][] ranges = {{5, 7}, {5, 8}, {7, 8}};
        String[] due = {"1000 | 33", "0 | 33", "33 | 33"};
        for (int k = 0; k < ranges.length; k++) {
            Kit kit = new Kit();
            int method = kit.told(0, 0, 2, 1, code);
            kit.framer.handler(method, ranges[k][0], ranges[k][1], 9, 1);
            kit.verify(method);
            Check.same("from " + ranges[k][0] + " to " + ranges[k][1], kit.types(method, 9), due[k]);
        }
    }

    /** Of NULL: 46, 47, 50, 79, 80, 83, 190 take it as the array that they want (50 pushes NULL then); 191 takes it. */
    private static void takenNull() {
        due("none", 4, 0, 1, 3, 46, 87, 177);
        due("none", 4, 0, 1, 3, 47, 88, 177);
        due("none", 4, 0, 1, 3, 50, 87, 177);
        due("none", 4, 0, 1, 3, 3, 79, 177);
        due("none", 4, 0, 1, 3, 9, 80, 177);
        due("none", 4, 0, 1, 3, 1, 83, 177);
        due("none", 4, 0, 1, 190, 87, 177);
        due("none", 4, 0, 1, 191);
        due("6 at 2", 4, 0, 1, 1, 46, 177);
        due("6 at 3", 4, 0, 1, 3, 3, 80, 177);
        due("6 at 3", 4, 0, 1, 3, 3, 83, 177);
        Kit kit = new Kit();
        int pushed = kit.made(0, 0, 2, 0, 1, 3, 50, 177);
        Check.same("50 pushes NULL", kit.types(pushed, 3), "| 5");
        int object = kit.made(0, 0, 2, 0, 3, 189, 1, 3, 50, 177);
        Check.same("50 pushes an object", kit.types(object, 5), "| 33");
        due("none", 4, 0, 1, 3, 50, 3, 46, 87, 177);
        due("6 at 4", 4, 0, 1, 192, 0, 3, 46, 177);
        due("6 at 3", 4, 0, 1, 192, 0, 190, 177);
        due("6 at 3", 4, 0, 1, 192, 0, 191);
        due("none", 4, 0, 1, 192, 1, 191);
    }

    /** 172, 173, 176: return INT, LONG, a reference that is assignable to the result; 177 return, of void. */
    private static void results() {
        int[] types = {0, 1, 2, 3, 4, 32, 33, 64, 65};
        int[][] pushed = {{3}, {9}, {1}, {3, 188, 10}, {3, 188, 11}, {3, 189, 0}, {3, 189, 1}, {1, 192, 0}, {1, 192, 1},
            {187, 1}};
        String[] taken = {"1", "2", "3 4 32 33 64 65", "3 32", "4 32", "32 64", "32 64 65", "32", "32 33", ""};
        for (int type : types) {
            due177(type);
            for (int k = 0; k < pushed.length; k++) {
                int op = k == 0 ? 172 : k == 1 ? 173 : 176;
                boolean isGood = Arrays.asList(taken[k].split(" ")).contains(String.valueOf(type));
                Check.same(op + " of " + Arrays.toString(pushed[k]) + " as " + type, fault(2, 0, type, join(pushed[k], op)),
                    isGood ? "none" : "6 at " + pushed[k].length);
            }
        }
        Check.same("172 of a LONG", fault(2, 0, 1, 9, 172), "6 at 1");
        Check.same("173 of an INT", fault(2, 0, 2, 3, 173), "6 at 1");
        Check.same("176 of an INT", fault(2, 0, 32, 3, 176), "6 at 1");
        Check.same("172 of NULL", fault(2, 0, 32, 1, 172), "6 at 1");
        Check.same("more below it", fault(2, 0, 1, 3, 3, 172), "none");
    }

    private static void due177(int type) {
        Check.same("177 of result " + type, fault(2, 0, type, 177), type == 0 ? "none" : "6 at 0");
        Check.same("177 of result " + type + " and one on the stack", fault(2, 0, type, 3, 177),
            type == 0 ? "none" : "6 at 1");
    }
}
