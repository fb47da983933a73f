/** A MapFramer with the means to tell it code and to read much of it at once. */
final class Kit {
    static final int NONE = MapFramer.NONE;
    final MapFramer framer = new MapFramer();

    /** Packs argument types as method() wants them. */
    static int pack(int... all) {
        int packed = 0;
        for (int k = 0; k < all.length; k++) {
            packed |= all[k] << 8 * k;
        }
        return packed;
    }

    void feed(int... code) {
        for (int k = 0; k < code.length; k += 4) {
            int word = 0;
            for (int i = 0; i < 4; i++) {
                word = word << 8 | (k + i < code.length ? code[k + i] & 255 : 0);
            }
            framer.feed(word);
        }
    }

    void code(int method, int maxStack, int maxLocals, int... code) {
        feed(code);
        framer.code(method, code.length, maxStack, maxLocals);
    }

    /** A method with code that is not verified. */
    int told(int arguments, int result, int maxStack, int maxLocals, int... code) {
        int method = framer.method(arguments, result);
        code(method, maxStack, maxLocals, code);
        return method;
    }

    /** A method with code, verified; a fault is left to about(). */
    int made(int arguments, int result, int maxStack, int maxLocals, int... code) {
        int method = told(arguments, result, maxStack, maxLocals, code);
        verify(method);
        return method;
    }

    void verify(int method) {
        try {
            framer.verify(method);
        } catch (UnsupportedOperationException e) {
            return;
        }
    }

    /** A fault and where it is, as "6 at 3"; "none" without. */
    String fault(int method) {
        int fault = framer.about(method, 0);
        return fault == 0 ? "none" : fault + " at " + framer.about(method, 1);
    }

    String code(int method) {
        StringBuilder text = new StringBuilder();
        for (int k = 0; k < framer.about(method, 3); k++) {
            text.append(k == 0 ? "" : " ").append(framer.codeAt(method, k));
        }
        return text.toString();
    }

    String frames(int method) {
        StringBuilder text = new StringBuilder();
        for (int k = 0; k < framer.about(method, 4); k++) {
            text.append(k == 0 ? "" : " ").append(framer.frameAt(method, k));
        }
        return text.toString();
    }

    /** The handlers as "from-to>place:class". */
    String handlers(int method) {
        StringBuilder text = new StringBuilder();
        for (int k = 0; k < framer.about(method, 5); k++) {
            text.append(k == 0 ? "" : " ").append(framer.handlerAt(method, k, 0)).append('-')
                .append(framer.handlerAt(method, k, 1)).append('>').append(framer.handlerAt(method, k, 2))
                .append(':').append(framer.handlerAt(method, k, 3));
        }
        return text.toString();
    }

    /** The types ahead of an instruction as "local local | stack stack"; "-" if it had no state. */
    String types(int method, int place) {
        StringBuilder text = new StringBuilder();
        for (int k = 0; k < framer.about(method, 7); k++) {
            try {
                text.append(framer.typeAt(method, place, k)).append(' ');
            } catch (IndexOutOfBoundsException e) {
                return "-";
            }
        }
        text.append('|');
        for (int k = 100; k < 113; k++) {
            try {
                int type = framer.typeAt(method, place, k);
                text.append(' ').append(type);
            } catch (IndexOutOfBoundsException e) {
                return text.toString();
            }
        }
        return text.toString();
    }

    /** What a run came to: its answer, or "end 1 class 1" and the like, or "fault 6 at 3". */
    String run(int method, long a, long b, int fuel) {
        if (framer.about(method, 0) != 0) {
            return "fault " + fault(method);
        }
        try {
            return String.valueOf(framer.run(method, a, b, fuel));
        } catch (UnsupportedOperationException e) {
            return "end " + framer.end(0) + (framer.end(2) == NONE ? "" : " class " + framer.end(2));
        }
    }

    String run(int method) {
        return run(method, 0, 0, 20000);
    }
}
