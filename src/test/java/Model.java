import java.util.ArrayDeque;
import java.util.ArrayList;
import java.util.Arrays;
import java.util.Deque;
import java.util.HashSet;
import java.util.List;
import java.util.Map;
import java.util.Set;
import java.util.TreeMap;
import java.util.TreeSet;

/**
 * The document once more, written another way and only for tests: types are texts, states are lists, a fault is an
 * exception, and values in a run are Java objects, so that a value of a wrong kind can't go unseen.
 */
final class Model {
    /** A fault of code. */
    static final class Fault extends RuntimeException {
        private static final long serialVersionUID = 1;
        final int number;
        final int at;

        Fault(int number, int at) {
            this.number = number;
            this.at = at;
        }
    }

    static final class Field {
        int owner;
        String type;
        boolean isStatic;
    }

    static final class Trap {
        int from;
        int to;
        int place;
        int caught;

        Trap(int from, int to, int place, int caught) {
            this.from = from;
            this.to = to;
            this.place = place;
            this.caught = caught;
        }
    }

    static final class Routine {
        List<String> arguments = new ArrayList<>();
        String result;
        int[] code;
        int maxStack;
        int maxLocals;
        List<Trap> traps = new ArrayList<>();
        boolean verified;
        int fault;
        int faultAt = -1;
        Map<Integer, Types> types = new TreeMap<>();
        List<Integer> frames = new ArrayList<>();
        int frameCount;
    }

    /** A state. */
    static final class Types {
        List<String> locals = new ArrayList<>();
        List<String> stack = new ArrayList<>();

        Types copy() {
            Types other = new Types();
            other.locals.addAll(locals);
            other.stack.addAll(stack);
            return other;
        }

        int words() {
            int words = 0;
            for (String type : stack) {
                words += type.equals("J") ? 2 : 1;
            }
            return words;
        }

        boolean isSame(Types other) {
            return locals.equals(other.locals) && stack.equals(other.stack);
        }
    }

    final List<Integer> parents = new ArrayList<>(List.of(-1, 0));
    final List<Boolean> interfaces = new ArrayList<>(List.of(false, false));
    final List<Field> fields = new ArrayList<>();
    final List<Routine> routines = new ArrayList<>();

    static String typeName(int number) {
        switch (number) {
            case 0:
                return "V";
            case 1:
                return "I";
            case 2:
                return "J";
            case 3:
                return "AI";
            case 4:
                return "AJ";
            default:
                return number >= 64 ? "A" + (number - 64) : "O" + (number - 32);
        }
    }

    /** A verification type's number, as typeAt() has it. */
    static int typeNumber(String type) {
        int k = List.of("T", "I", "J", "AI", "AJ", "N").indexOf(type);
        if (k >= 0) {
            return k;
        }
        int rest = Integer.parseInt(type.substring(1));
        return type.charAt(0) == 'O' ? 32 + rest : type.charAt(0) == 'A' ? 64 + rest : 1000 + rest;
    }

    Set<Integer> supersOf(int c) {
        Set<Integer> all = new TreeSet<>();
        for (int k = c; k >= 0; k = parents.get(k)) {
            all.add(k);
        }
        return all;
    }

    static boolean isClassArray(String type) {
        return type.matches("A\\d+");
    }

    static boolean isReference(String type) {
        return type.matches("N|O\\d+|A\\d+|AI|AJ");
    }

    static int classOf(String type) {
        return Integer.parseInt(type.substring(1));
    }

    boolean assignable(String from, String to) {
        if (to.equals("T") || from.equals(to)) {
            return true;
        }
        if (to.equals("V") || !isReference(from) || !isReference(to) || to.equals("N")) {
            return false;
        }
        if (from.equals("N")) {
            return true;
        }
        if (to.startsWith("O") && (classOf(to) == 0 || interfaces.get(classOf(to)))) {
            return true;
        }
        if (from.startsWith("O") && to.startsWith("O")) {
            return supersOf(classOf(from)).contains(classOf(to));
        }
        return isClassArray(from) && isClassArray(to) && assignable("O" + classOf(from), "O" + classOf(to));
    }

    String merge(String a, String b) {
        if (a.equals(b)) {
            return a;
        }
        if (!isReference(a) || !isReference(b)) {
            return "T";
        }
        if (a.equals("N")) {
            return b;
        }
        if (b.equals("N")) {
            return a;
        }
        if (a.startsWith("O") && b.startsWith("O")) {
            Set<Integer> both = supersOf(classOf(a));
            both.retainAll(supersOf(classOf(b)));
            int nearest = 0;
            for (int c : both) {
                if (supersOf(c).size() > supersOf(nearest).size()) {
                    nearest = c;
                }
            }
            return "O" + nearest;
        }
        if (isClassArray(a) && isClassArray(b)) {
            return "A" + merge("O" + classOf(a), "O" + classOf(b)).substring(1);
        }
        return "O0";
    }

    static final Set<Integer> ONE_BYTE = Set.copyOf(numbers("0-10 46 47 50 79 80 83 87-90 92 95 96 97 100 101 104 105 "
        + "108 109 133 136 148 172 173 176 177 190 191"));
    static final Set<Integer> TWO_BYTES = Set.copyOf(numbers("16 21 22 25 54 55 58 178-181 183 184 187-189 192 193"));
    static final Set<Integer> THREE_BYTES = Set.copyOf(numbers("17 132 153-167 198 199"));
    static final Set<Integer> BRANCHES = Set.copyOf(numbers("153-167 198 199"));
    static final Set<Integer> LAST = Set.copyOf(numbers("167 172 173 176 177 191"));

    static List<Integer> numbers(String text) {
        List<Integer> all = new ArrayList<>();
        for (String part : text.trim().split(" +")) {
            String[] ends = part.split("-");
            for (int k = Integer.parseInt(ends[0]); k <= Integer.parseInt(ends[ends.length - 1]); k++) {
                all.add(k);
            }
        }
        return all;
    }

    static int size(int op) {
        return ONE_BYTE.contains(op) ? 1 : TWO_BYTES.contains(op) ? 2 : THREE_BYTES.contains(op) ? 3 : 0;
    }

    static int target(Routine m, int p) {
        return p + (short) (m.code[p + 1] * 256 + m.code[p + 2]);
    }

    /** Verifies; true without a fault. */
    boolean verify(Routine m) {
        m.verified = true;
        try {
            List<Integer> places = shape(m);
            Map<Integer, Types> types = flow(m);
            List<int[]> rows = new ArrayList<>();
            List<Trap> traps = bury(m, places, types, rows);
            m.traps = traps;
            for (int[] row : rows) {
                for (int k = row[0]; k < row[1]; k++) {
                    m.code[k] = k == row[1] - 1 ? 191 : 0;
                }
                m.maxStack = Math.max(1, m.maxStack);
            }
            m.types = types;
            writeFrames(m, rows);
            return true;
        } catch (Fault e) {
            m.fault = e.number;
            m.faultAt = e.at;
            return false;
        }
    }

    private List<Integer> shape(Routine m) {
        List<Integer> places = new ArrayList<>();
        int n = m.code.length;
        for (int p = 0; p < n; p += size(m.code[p])) {
            int op = m.code[p];
            if (size(op) == 0 || p + size(op) > n) {
                throw new Fault(1, p);
            }
            places.add(p);
            int i = size(op) > 1 ? m.code[p + 1] : 0;
            if (List.of(21, 25, 54, 58, 132).contains(op) && i >= m.maxLocals
                    || List.of(22, 55).contains(op) && i + 1 >= m.maxLocals) {
                throw new Fault(2, p);
            }
            boolean isField = i < fields.size();
            boolean isClass = i < parents.size();
            boolean isWrong = List.of(178, 179).contains(op) && !(isField && fields.get(i).isStatic)
                || List.of(180, 181).contains(op) && !(isField && !fields.get(i).isStatic)
                || List.of(187, 183).contains(op) && !(isClass && !interfaces.get(i))
                || List.of(189, 192, 193).contains(op) && !isClass
                || op == 188 && i != 10 && i != 11
                || op == 184 && !(i < routines.size() && routines.get(i).code != null);
            if (isWrong) {
                throw new Fault(3, p);
            }
        }
        for (int p : places) {
            if (BRANCHES.contains(m.code[p]) && !places.contains(target(m, p))) {
                throw new Fault(4, p);
            }
        }
        for (int k = 0; k < m.traps.size(); k++) {
            Trap t = m.traps.get(k);
            if (t.from >= t.to || !places.contains(t.from) || !places.contains(t.place)
                    || t.to != n && !places.contains(t.to)) {
                throw new Fault(5, k);
            }
        }
        return places;
    }

    private Map<Integer, Types> flow(Routine m) {
        Map<Integer, Types> all = new TreeMap<>();
        TreeSet<Integer> waiting = new TreeSet<>();
        Types first = new Types();
        for (String type : m.arguments) {
            first.locals.add(type);
            if (type.equals("J")) {
                first.locals.add("T");
            }
        }
        while (first.locals.size() < m.maxLocals) {
            first.locals.add("T");
        }
        all.put(0, first);
        waiting.add(0);
        while (!waiting.isEmpty()) {
            int p = waiting.pollFirst();
            Types ahead = all.get(p).copy();
            Types behind = ahead.copy();
            int op = m.code[p];
            new Effect(m, p, behind).apply(op);
            if (!LAST.contains(op) && p + size(op) >= m.code.length) {
                throw new Fault(8, p);
            }
            for (Trap t : m.traps) {
                if (t.from <= p && p < t.to) {
                    if (m.maxStack == 0) {
                        throw new Fault(7, p);
                    }
                    for (Types source : List.of(54, 55, 58).contains(op) ? List.of(ahead, behind) : List.of(ahead)) {
                        Types given = source.copy();
                        given.stack.clear();
                        given.stack.add("O" + t.caught);
                        give(all, waiting, t.place, given);
                    }
                }
            }
            if (!LAST.contains(op)) {
                give(all, waiting, p + size(op), behind);
            }
            if (BRANCHES.contains(op)) {
                give(all, waiting, target(m, p), behind);
            }
        }
        return all;
    }

    /** The types behind an instruction, or null at a fault of it. */
    Types behind(Routine m, int p, Types ahead) {
        Types behind = ahead.copy();
        try {
            new Effect(m, p, behind).apply(m.code[p]);
        } catch (Fault e) {
            return null;
        }
        return behind;
    }

    private void give(Map<Integer, Types> all, TreeSet<Integer> waiting, int place, Types given) {
        Types old = all.get(place);
        if (old == null) {
            all.put(place, given.copy());
            waiting.add(place);
            return;
        }
        Types merged = new Types();
        for (int k = 0; k < old.locals.size(); k++) {
            merged.locals.add(merge(old.locals.get(k), given.locals.get(k)));
        }
        if (old.stack.size() != given.stack.size()) {
            throw new Fault(9, place);
        }
        for (int k = 0; k < old.stack.size(); k++) {
            merged.stack.add(merge(old.stack.get(k), given.stack.get(k)));
        }
        if (merged.stack.contains("T")) {
            throw new Fault(9, place);
        }
        if (!merged.isSame(old)) {
            all.put(place, merged);
            waiting.add(place);
        }
    }

    /** What one instruction does to the types: pops from the right of a text, and pushes. */
    private final class Effect {
        private final Routine m;
        private final int p;
        private final Types t;

        Effect(Routine m, int p, Types t) {
            this.m = m;
            this.p = p;
            this.t = t;
        }

        private int i() {
            return m.code[p + 1];
        }

        private void must(boolean right) {
            if (!right) {
                throw new Fault(6, p);
            }
        }

        private String pop() {
            must(!t.stack.isEmpty());
            return t.stack.remove(t.stack.size() - 1);
        }

        private String popMatching(String pattern) {
            String type = pop();
            must(type.matches(pattern));
            return type;
        }

        private void popFor(String type) {
            must(assignable(pop(), type));
        }

        private void push(String... types) {
            for (String type : types) {
                t.stack.add(type);
                if (t.words() > m.maxStack) {
                    throw new Fault(7, p);
                }
            }
        }

        private void store(String type) {
            if (i() > 0 && t.locals.get(i() - 1).equals("J")) {
                t.locals.set(i() - 1, "T");
            }
            t.locals.set(i(), type);
            if (type.equals("J")) {
                t.locals.set(i() + 1, "T");
            }
        }

        private void swapAll(String old, String type) {
            t.locals.replaceAll(one -> one.equals(old) ? type : one);
            t.stack.replaceAll(one -> one.equals(old) ? type : one);
        }

        void apply(int op) {
            String ref = "N|[OA].+";
            String one = "[^J].*";
            if (op == 0 || op == 167) {
                return;
            } else if (op == 1) {
                push("N");
            } else if (op <= 8 || op == 16 || op == 17) {
                push("I");
            } else if (op <= 10) {
                push("J");
            } else if (op == 21 || op == 22 || op == 25) {
                String type = t.locals.get(i());
                must(type.matches(op == 21 ? "I" : op == 22 ? "J" : ref + "|U.+"));
                push(type);
            } else if (op == 54 || op == 55 || op == 58) {
                store(popMatching(op == 54 ? "I" : op == 55 ? "J" : ref + "|U.+"));
            } else if (op == 46 || op == 47) {
                popMatching("I");
                popMatching(op == 46 ? "N|AI" : "N|AJ");
                push(op == 46 ? "I" : "J");
            } else if (op == 50) {
                popMatching("I");
                push(popMatching("N|A\\d+").replace('A', 'O'));
            } else if (op == 79 || op == 80 || op == 83) {
                popMatching(op == 79 ? "I" : op == 80 ? "J" : ref);
                popMatching("I");
                popMatching(op == 79 ? "N|AI" : op == 80 ? "N|AJ" : "N|A\\d+");
            } else if (op <= 95) {
                juggle(op, one);
            } else if (op == 132) {
                must(t.locals.get(i()).equals("I"));
            } else if (op == 133 || op == 136) {
                popMatching(op == 133 ? "I" : "J");
                push(op == 133 ? "J" : "I");
            } else if (op == 148) {
                popMatching("J");
                popMatching("J");
                push("I");
            } else if (op <= 109) {
                String type = (op - 96) % 4 == 0 ? "I" : "J";
                popMatching(type);
                popMatching(type);
                push(type);
            } else if (op <= 164) {
                popMatching("I");
                if (op >= 159) {
                    popMatching("I");
                }
            } else if (op == 165 || op == 166 || op >= 198) {
                popMatching(ref);
                if (op <= 166) {
                    popMatching(ref);
                }
            } else if (op <= 177) {
                must(op != 177 || m.result.equals("V"));
                if (op != 177) {
                    must(assignable(popMatching(op == 172 ? "I" : op == 173 ? "J" : ref), m.result));
                }
            } else {
                object(op, ref);
            }
        }

        private void juggle(int op, String one) {
            if (op == 87) {
                popMatching(one);
            } else if (op == 88) {
                if (!pop().equals("J")) {
                    popMatching(one);
                }
            } else if (op == 89) {
                String y = popMatching(one);
                push(y, y);
            } else if (op == 92) {
                String y = pop();
                if (y.equals("J")) {
                    push(y, y);
                } else {
                    String x = popMatching(one);
                    push(x, y, x, y);
                }
            } else {
                String y = popMatching(one);
                String x = popMatching(one);
                push(y, x);
                if (op == 90) {
                    push(y);
                }
            }
        }

        private void object(int op, String ref) {
            if (op <= 181) {
                Field f = fields.get(i());
                if (op % 2 == 1) {
                    popFor(f.type);
                }
                if (op >= 180) {
                    popFor("O" + f.owner);
                }
                if (op % 2 == 0) {
                    push(f.type);
                }
            } else if (op == 184) {
                Routine callee = routines.get(i());
                for (int k = callee.arguments.size() - 1; k >= 0; k--) {
                    popFor(callee.arguments.get(k));
                }
                if (!callee.result.equals("V")) {
                    push(callee.result);
                }
            } else if (op == 187) {
                must(!t.stack.contains("U" + p));
                swapAll("U" + p, "T");
                push("U" + p);
            } else if (op == 183) {
                String type = popMatching("U.+");
                must(m.code[classOf(type) + 1] == i());
                swapAll(type, "O" + i());
            } else if (op == 188 || op == 189) {
                popMatching("I");
                push(op == 189 ? "A" + i() : i() == 10 ? "AI" : "AJ");
            } else if (op == 190) {
                popMatching("N|A.+");
                push("I");
            } else if (op == 191) {
                String type = popMatching("N|O.+");
                must(type.equals("N") || supersOf(classOf(type)).contains(1));
            } else {
                popMatching(ref);
                push(op == 192 ? "O" + i() : "I");
            }
        }
    }

    private List<Trap> bury(Routine m, List<Integer> places, Map<Integer, Types> types, List<int[]> rows) {
        for (int p : places) {
            if (!types.containsKey(p)) {
                int end = p + size(m.code[p]);
                if (!rows.isEmpty() && rows.get(rows.size() - 1)[1] == p) {
                    rows.get(rows.size() - 1)[1] = end;
                } else {
                    rows.add(new int[] {p, end});
                }
            }
        }
        List<Trap> traps = m.traps;
        for (int[] row : rows) {
            List<Trap> left = new ArrayList<>();
            for (Trap t : traps) {
                // each piece of it that stands outside of the row
                if (t.from < Math.min(t.to, row[0])) {
                    left.add(new Trap(t.from, Math.min(t.to, row[0]), t.place, t.caught));
                }
                if (Math.max(t.from, row[1]) < t.to) {
                    left.add(new Trap(Math.max(t.from, row[1]), t.to, t.place, t.caught));
                }
            }
            traps = left;
            if (traps.size() > 12) {
                throw new Fault(10, row[0]);
            }
        }
        return traps;
    }

    private void writeFrames(Routine m, List<int[]> rows) {
        TreeSet<Integer> places = new TreeSet<>();
        for (int p : m.types.keySet()) {
            int op = m.code[p];
            if (BRANCHES.contains(op)) {
                places.add(target(m, p));
            }
            if (LAST.contains(op) && p + size(op) < m.code.length) {
                places.add(p + size(op));
            }
        }
        Types dead = new Types();
        dead.stack.add("O1");
        for (int[] row : rows) {
            places.add(row[0]);
            if (row[1] < m.code.length) {
                places.add(row[1]);
            }
        }
        for (Trap t : m.traps) {
            places.add(t.place);
        }
        List<String> before = m.arguments;
        int last = -1;
        for (int p : places) {
            Types types = m.types.getOrDefault(p, dead);
            List<String> now = list(types.locals);
            m.frames.addAll(frame(before, now, types.stack, p - last - 1));
            before = now;
            last = p;
        }
        m.frameCount = places.size();
    }

    private static List<String> list(List<String> locals) {
        List<String> all = new ArrayList<>();
        for (int k = 0; k < locals.size(); k++) {
            all.add(locals.get(k));
            if (locals.get(k).equals("J")) {
                k++;
            }
        }
        while (!all.isEmpty() && all.get(all.size() - 1).equals("T")) {
            all.remove(all.size() - 1);
        }
        return all;
    }

    /** Every kind that can be written, and the shortest of them. */
    private static List<Integer> frame(List<String> before, List<String> now, List<String> stack, int d) {
        List<List<Integer>> kinds = new ArrayList<>();
        if (before.equals(now) && stack.isEmpty()) {
            kinds.add(bytes(251, d / 256, d % 256));
            if (d < 64) {
                kinds.add(bytes(d));
            }
        }
        if (before.equals(now) && stack.size() == 1) {
            List<Integer> far = bytes(247, d / 256, d % 256);
            far.addAll(bytes(stack));
            kinds.add(far);
            if (d < 64) {
                List<Integer> near = bytes(64 + d);
                near.addAll(bytes(stack));
                kinds.add(near);
            }
        }
        for (int k = 1; k <= 3; k++) {
            if (stack.isEmpty() && now.size() + k == before.size() && before.subList(0, now.size()).equals(now)) {
                kinds.add(bytes(251 - k, d / 256, d % 256));
            }
            if (stack.isEmpty() && before.size() + k == now.size() && now.subList(0, before.size()).equals(before)) {
                List<Integer> more = bytes(251 + k, d / 256, d % 256);
                more.addAll(bytes(now.subList(before.size(), now.size())));
                kinds.add(more);
            }
        }
        List<Integer> full = bytes(255, d / 256, d % 256, 0, now.size());
        full.addAll(bytes(now));
        full.addAll(bytes(0, stack.size()));
        full.addAll(bytes(stack));
        kinds.add(full);
        List<Integer> shortest = full;
        for (List<Integer> kind : kinds) {
            shortest = kind.size() < shortest.size() ? kind : shortest;
        }
        return shortest;
    }

    private static List<Integer> bytes(Integer... all) {
        return new ArrayList<>(Arrays.asList(all));
    }

    private static List<Integer> bytes(List<String> types) {
        List<Integer> all = new ArrayList<>();
        for (String type : types) {
            char kind = type.charAt(0);
            switch (kind) {
                case 'T':
                    all.add(0);
                    break;
                case 'I':
                    all.add(1);
                    break;
                case 'J':
                    all.add(4);
                    break;
                case 'N':
                    all.add(5);
                    break;
                case 'U':
                    all.addAll(bytes(8, 0, classOf(type)));
                    break;
                case 'O':
                    all.addAll(bytes(7, 0, classOf(type)));
                    break;
                default:
                    all.addAll(type.equals("AI") ? bytes(7, 2, 3) : type.equals("AJ") ? bytes(7, 2, 4)
                        : bytes(7, 1, classOf(type)));
                    break;
            }
        }
        return all;
    }

    /** An object or array of a run. */
    static final class Thing {
        final String type;
        final Object[] values;

        Thing(String type, int n) {
            this.type = type;
            values = new Object[n];
        }
    }

    /** What is thrown in a run. */
    static final class Thrown extends RuntimeException {
        private static final long serialVersionUID = 1;
        final transient Thing thing;

        Thrown(Thing thing) {
            super(null, null, false, false);
            this.thing = thing;
        }
    }

    /** A run that is at its end by fuel, calls or objects. */
    static final class Stopped extends RuntimeException {
        private static final long serialVersionUID = 1;
        final int why;

        Stopped(int why) {
            super(null, null, false, false);
            this.why = why;
        }
    }

    private Object[] statics = new Object[0];
    int ended = -1;
    int used = -1;
    int thrownClass = -1;
    int made = -1;
    private int fuel;

    /** What run() comes to: "argument" or "state" for its exceptions, "stopped", or the answer. */
    String run(int method, long a, long b, int given) {
        if (method < 0 || method >= routines.size() || given < 1 || given > 20000) {
            return "argument";
        }
        Routine m = routines.get(method);
        if (!m.verified || m.fault != 0 || m.arguments.stream().anyMatch(Model::isReference)) {
            return "argument";
        }
        Set<Routine> reached = new HashSet<>();
        Deque<Routine> open = new ArrayDeque<>(List.of(m));
        while (!open.isEmpty()) {
            Routine one = open.pop();
            for (int p = 0; p < one.code.length; p += size(one.code[p])) {
                Routine callee = one.code[p] == 184 ? routines.get(one.code[p + 1]) : null;
                if (callee != null && (!callee.verified || callee.fault != 0)) {
                    return "state";
                }
                if (callee != null && reached.add(callee)) {
                    open.push(callee);
                }
            }
        }
        statics = new Object[16];
        for (int k = 0; k < fields.size(); k++) {
            statics[k] = zero(fields.get(k).type);
        }
        fuel = given;
        used = 0;
        made = 0;
        thrownClass = -1;
        List<Object> arguments = new ArrayList<>();
        for (int k = 0; k < m.arguments.size(); k++) {
            long value = k == 0 ? a : k == 1 ? b : 0;
            arguments.add(m.arguments.get(k).equals("I") ? (Object) (int) value : (Object) value);
        }
        try {
            Object result = invoke(m, arguments, 1);
            ended = 0;
            return m.result.equals("V") ? "0" : isReference(m.result) ? className(result) : String.valueOf(result);
        } catch (Thrown e) {
            ended = 1;
            thrownClass = classOf(e.thing.type);
        } catch (Stopped e) {
            ended = e.why;
        }
        return "stopped";
    }

    private static String className(Object result) {
        if (result == null) {
            return "-1";
        }
        Thing thing = (Thing) result;
        return thing.type.startsWith("O") ? thing.type.substring(1) : "32";
    }

    private static Object zero(String type) {
        return type.equals("I") ? (Object) 0 : type.equals("J") ? (Object) 0L : null;
    }

    private Thing make(String type, int n) {
        if (made == 150) {
            throw new Stopped(4);
        }
        made++;
        Thing thing = new Thing(type, n);
        for (int k = 0; k < n; k++) {
            thing.values[k] = type.equals("AI") ? (Object) 0 : type.equals("AJ") ? (Object) 0L : null;
        }
        return thing;
    }

    private Thing makeObject(int c) {
        Thing thing = make("O" + c, 16);
        for (int k = 0; k < fields.size(); k++) {
            thing.values[k] = zero(fields.get(k).type);
        }
        return thing;
    }

    /** Throws, if something is wrong. */
    private void need(boolean right) {
        if (!right) {
            throw new Thrown(makeObject(1));
        }
    }

    private Object invoke(Routine m, List<Object> arguments, int depth) {
        if (depth > 24) {
            throw new Stopped(3);
        }
        Act act = new Act(m, depth);
        for (int k = 0; k < arguments.size(); k++) {
            act.locals.add(arguments.get(k));
            if (m.arguments.get(k).equals("J")) {
                act.locals.add("half");
            }
        }
        while (act.locals.size() < m.maxLocals) {
            act.locals.add("nothing");
        }
        while (!act.isOver) {
            if (used == fuel) {
                throw new Stopped(2);
            }
            used++;
            act.checkTags();
            try {
                act.step();
            } catch (Thrown e) {
                act.handle(e);
            }
        }
        return act.result;
    }

    /** A method that runs. */
    private final class Act {
        private final Routine m;
        private final int depth;
        private final List<Object> locals = new ArrayList<>();
        private final List<Object> stack = new ArrayList<>();
        private int p;
        private boolean isOver;
        private Object result;

        Act(Routine m, int depth) {
            this.m = m;
            this.depth = depth;
        }

        /** Every value must be of the type that verify() found for it. */
        void checkTags() {
            Types types = m.types.get(p);
            for (int k = 0; k < locals.size(); k++) {
                checkTag(types.locals.get(k), locals.get(k));
            }
            if (stack.size() != types.stack.size()) {
                throw new AssertionError("stack at " + p);
            }
            for (int k = 0; k < stack.size(); k++) {
                checkTag(types.stack.get(k), stack.get(k));
            }
        }

        private void checkTag(String type, Object value) {
            boolean right = type.equals("T")
                || type.equals("I") && value instanceof Integer
                || type.equals("J") && value instanceof Long
                || isReference(type) && (value == null
                    || value instanceof Thing && assignable(((Thing) value).type, type))
                || type.startsWith("U") && value instanceof Thing
                    && ((Thing) value).type.equals("O" + m.code[classOf(type) + 1]);
            if (!right) {
                throw new AssertionError("at " + p + ": " + value + " is no " + type);
            }
        }

        void handle(Thrown e) {
            for (Trap t : m.traps) {
                if (t.from <= p && p < t.to && supersOf(classOf(e.thing.type)).contains(t.caught)) {
                    stack.clear();
                    stack.add(e.thing);
                    p = t.place;
                    return;
                }
            }
            throw e;
        }

        private Object pop() {
            return stack.remove(stack.size() - 1);
        }

        private int popInt() {
            return (Integer) pop();
        }

        private long popLong() {
            return (Long) pop();
        }

        private Thing popThing() {
            return (Thing) pop();
        }

        private void push(Object... all) {
            stack.addAll(Arrays.asList(all));
        }

        private int i() {
            return m.code[p + 1];
        }

        void step() {
            int op = m.code[p];
            int next = p + size(op);
            if (op == 1) {
                push((Object) null);
            } else if (op >= 2 && op <= 8) {
                push(op - 3);
            } else if (op == 9 || op == 10) {
                push(op - 9L);
            } else if (op == 16) {
                push((int) (byte) i());
            } else if (op == 17) {
                push((int) (short) (i() * 256 + m.code[p + 2]));
            } else if (op == 21 || op == 22 || op == 25) {
                push(locals.get(i()));
            } else if (op == 54 || op == 55 || op == 58) {
                store();
            } else if (op >= 46 && op <= 83) {
                element(op);
            } else if (op >= 87 && op <= 95) {
                juggle(op);
            } else if (op >= 96 && op <= 148) {
                reckon(op);
            } else if (BRANCHES.contains(op)) {
                next = isTaken(op) ? target(m, p) : next;
            } else if (op >= 172 && op <= 177) {
                result = op == 177 ? null : pop();
                isOver = true;
            } else if (op >= 178) {
                object(op);
            }
            p = next;
        }

        private void store() {
            Object value = pop();
            if (i() > 0 && locals.get(i() - 1) instanceof Long) {
                locals.set(i() - 1, "lost");
            }
            locals.set(i(), value);
            if (value instanceof Long) {
                locals.set(i() + 1, "half");
            }
        }

        private void element(int op) {
            Object value = op >= 79 ? pop() : null;
            int k = popInt();
            Thing array = popThing();
            need(array != null);
            need(k >= 0 && k < array.values.length);
            if (op < 79) {
                push(array.values[k]);
                return;
            }
            need(op != 83 || value == null || assignable(((Thing) value).type, "O" + classOf(array.type)));
            array.values[k] = value;
        }

        private void juggle(int op) {
            Object y = pop();
            boolean isLong = y instanceof Long;
            if (op == 88 && !isLong) {
                pop();
            } else if (op == 89 || op == 92 && isLong) {
                push(y, y);
            } else if (op == 92) {
                Object x = pop();
                push(x, y, x, y);
            } else if (op == 90) {
                Object x = pop();
                push(y, x, y);
            } else if (op == 95) {
                Object x = pop();
                push(y, x);
            }
        }

        private void reckon(int op) {
            if (op == 132) {
                locals.set(i(), (Integer) locals.get(i()) + (byte) m.code[p + 2]);
            } else if (op == 133) {
                push((long) popInt());
            } else if (op == 136) {
                push((int) popLong());
            } else if (op == 148) {
                long right = popLong();
                push(Integer.signum(Long.compare(popLong(), right)));
            } else if ((op - 96) % 4 == 0) {
                int right = popInt();
                int left = popInt();
                need(op != 108 || right != 0);
                push(op == 96 ? left + right : op == 100 ? left - right : op == 104 ? left * right : left / right);
            } else {
                long right = popLong();
                long left = popLong();
                need(op != 109 || right != 0);
                push(op == 97 ? left + right : op == 101 ? left - right : op == 105 ? left * right : left / right);
            }
        }

        private boolean isTaken(int op) {
            if (op == 167) {
                return true;
            }
            if (op >= 198) {
                return (pop() == null) == (op == 198);
            }
            if (op >= 165) {
                return (pop() == pop()) == (op == 165);
            }
            int right = op >= 159 ? popInt() : 0;
            int order = Integer.compare(popInt(), right);
            switch ((op - 153) % 6) {
                case 0:
                    return order == 0;
                case 1:
                    return order != 0;
                case 2:
                    return order < 0;
                case 3:
                    return order >= 0;
                case 4:
                    return order > 0;
                default:
                    return order <= 0;
            }
        }

        private void object(int op) {
            switch (op) {
                case 178:
                    push(statics[i()]);
                    break;
                case 179:
                    statics[i()] = pop();
                    break;
                case 180: {
                    Thing thing = popThing();
                    need(thing != null);
                    push(thing.values[i()]);
                    break;
                }
                case 181: {
                    Object value = pop();
                    Thing thing = popThing();
                    need(thing != null);
                    thing.values[i()] = value;
                    break;
                }
                case 183:
                    pop();
                    break;
                case 184:
                    call(routines.get(i()));
                    break;
                case 187:
                    push(makeObject(i()));
                    break;
                case 188:
                case 189: {
                    int n = popInt();
                    need(n >= 0 && n <= 24);
                    push(make(op == 189 ? "A" + i() : i() == 10 ? "AI" : "AJ", n));
                    break;
                }
                case 190: {
                    Thing thing = popThing();
                    need(thing != null);
                    push(thing.values.length);
                    break;
                }
                case 191: {
                    Thing thing = popThing();
                    need(thing != null);
                    throw new Thrown(thing);
                }
                default: {
                    Thing thing = popThing();
                    boolean isOf = thing != null && assignable(thing.type, "O" + i());
                    need(op == 193 || thing == null || isOf);
                    push(op == 193 ? (Object) (isOf ? 1 : 0) : thing);
                    break;
                }
            }
        }

        private void call(Routine callee) {
            List<Object> arguments = new ArrayList<>();
            for (int k = 0; k < callee.arguments.size(); k++) {
                arguments.add(0, pop());
            }
            Object value = invoke(callee, arguments, depth + 1);
            if (!callee.result.equals("V")) {
                push(value);
            }
        }
    }
}
