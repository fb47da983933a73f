import java.util.ArrayList;
import java.util.Arrays;
import java.util.List;
import java.util.Map;
import java.util.Random;
import java.util.TreeMap;

/** Makes code by chance that mostly has no fault: each instruction is one that the types ahead of it allow. */
final class Maker {
    private static final int[] OPS = {
        0, 1, 2, 3, 4, 5, 8, 9, 10, 16, 17, 21, 21, 22, 22, 25, 25, 25, 54, 54, 55, 55, 58, 58, 58, 46, 47, 50, 79, 80,
        83, 87, 88, 89, 90, 92, 95, 96, 97, 100, 101, 104, 105, 108, 109, 132, 133, 136, 148, 153, 154, 155, 156, 157,
        158, 159, 160, 161, 162, 163, 164, 165, 166, 198, 199, 167, 172, 173, 176, 177, 178, 179, 180, 181, 183, 183,
        184, 184, 187, 187, 188, 189, 190, 191, 192, 193
    };

    private final Model model;
    private final Random random;
    private final Model.Routine routine;
    private int[] code = new int[0];
    private final Map<Integer, Model.Types> states = new TreeMap<>();
    private final Map<Integer, Model.Types> branches = new TreeMap<>();
    final List<Model.Trap> traps = new ArrayList<>();
    private Model.Types now = new Model.Types();

    Maker(Model model, Model.Routine routine, Random random) {
        this.model = model;
        this.routine = routine;
        this.random = random;
    }

    int[] make(int length) {
        for (String type : routine.arguments) {
            now.locals.add(type);
            if (type.equals("J")) {
                now.locals.add("T");
            }
        }
        while (now.locals.size() < routine.maxLocals) {
            now.locals.add("T");
        }
        for (int tries = 0; tries < 3000 && code.length < length; tries++) {
            add();
        }
        finish();
        aimBranches();
        return code;
    }

    List<Integer> places() {
        return new ArrayList<>(states.keySet());
    }

    private boolean fits(int... instruction) {
        int at = code.length;
        int[] longer = Arrays.copyOf(code, at + instruction.length);
        System.arraycopy(instruction, 0, longer, at, instruction.length);
        routine.code = longer;
        Model.Types behind = model.behind(routine, at, now);
        routine.code = null;
        if (behind == null) {
            return false;
        }
        states.put(at, now);
        code = longer;
        if (Model.BRANCHES.contains(instruction[0])) {
            branches.put(at, behind);
        }
        now = behind;
        return true;
    }

    private void add() {
        int op = OPS[random.nextInt(OPS.length)];
        if (Model.LAST.contains(op) && (random.nextInt(3) != 0 || code.length < 3)) {
            return;
        }
        int[] instruction = new int[Model.size(op)];
        instruction[0] = op;
        if (instruction.length > 1 && !operand(instruction)) {
            return;
        }
        if (fits(instruction) && Model.LAST.contains(op)) {
            beginAnew();
        }
    }

    private boolean operand(int[] instruction) {
        int op = instruction[0];
        int bound = 256;
        if (List.of(21, 25, 54, 58, 132, 22, 55).contains(op)) {
            bound = routine.maxLocals - (op == 22 || op == 55 ? 1 : 0);
        } else if (op >= 178 && op <= 181) {
            bound = model.fields.size();
        } else if (op == 184) {
            bound = model.routines.size();
        } else if (List.of(183, 187, 189, 192, 193).contains(op)) {
            bound = model.parents.size();
        } else if (op == 188) {
            bound = 2;
        } else if (op == 16) {
            bound = random.nextBoolean() ? 26 : 256;
        }
        if (bound <= 0) {
            return false;
        }
        for (int k = 1; k < instruction.length; k++) {
            instruction[k] = k == 1 ? random.nextInt(bound) : random.nextInt(256);
        }
        int i = instruction[1];
        if (op == 188) {
            instruction[1] = 10 + i;
        }
        return !(op >= 178 && op <= 181 && model.fields.get(i).isStatic != op <= 179
            || (op == 183 || op == 187) && model.interfaces.get(i));
    }

    /** Behind what does not go on: a state that a branch or a handler may bring, or one of dead code. */
    private void beginAnew() {
        int kind = random.nextInt(10);
        List<Integer> places = new ArrayList<>(states.keySet());
        int from = random.nextInt(places.size());
        if (kind < 4 && !branches.isEmpty()) {
            List<Model.Types> open = new ArrayList<>(branches.values());
            now = open.get(random.nextInt(open.size())).copy();
        } else if (kind < 8 && traps.size() < 6 && routine.maxStack > 0) {
            int to = from + 1 + random.nextInt(places.size() - from);
            int caught = random.nextInt(3) == 0 ? exception() : 1;
            traps.add(new Model.Trap(places.get(from), to < places.size() ? places.get(to) : code.length, code.length,
                caught));
            now = commonLocals(places.subList(from, to));
            now.stack.add("O" + caught);
        } else {
            now = states.get(places.get(from)).copy();
        }
    }

    private int exception() {
        int c = random.nextInt(model.parents.size());
        return model.supersOf(c).contains(1) ? c : 1;
    }

    private Model.Types commonLocals(List<Integer> places) {
        Model.Types common = states.get(places.get(0)).copy();
        common.stack.clear();
        for (int place : places) {
            for (int k = 0; k < common.locals.size(); k++) {
                common.locals.set(k, model.merge(common.locals.get(k), states.get(place).locals.get(k)));
            }
        }
        return common;
    }

    private void finish() {
        for (int tries = 0; tries < 13 && !now.stack.isEmpty(); tries++) {
            if (!fits(87)) {
                fits(88);
            }
        }
        String result = routine.result;
        if (result.equals("V")) {
            fits(177);
        } else if (result.equals("I") && fits(5)) {
            fits(172);
        } else if (result.equals("J") && fits(10)) {
            fits(173);
        } else if (fits(1)) {
            fits(176);
        } else {
            fits(167, 0, 0);
        }
    }

    private void aimBranches() {
        for (Map.Entry<Integer, Model.Types> branch : branches.entrySet()) {
            List<Integer> likely = new ArrayList<>();
            List<Integer> possible = new ArrayList<>();
            for (Map.Entry<Integer, Model.Types> place : states.entrySet()) {
                if (place.getValue().stack.equals(branch.getValue().stack)) {
                    possible.add(place.getKey());
                    if (isGood(branch.getValue().locals, place.getValue().locals)) {
                        likely.add(place.getKey());
                    }
                }
            }
            List<Integer> from = !likely.isEmpty() && random.nextInt(8) != 0 ? likely
                : !possible.isEmpty() && random.nextInt(8) != 0 ? possible : new ArrayList<>(states.keySet());
            int j = from.get(random.nextInt(from.size())) - branch.getKey();
            code[branch.getKey() + 1] = j >> 8 & 255;
            code[branch.getKey() + 2] = j & 255;
        }
    }

    private boolean isGood(List<String> given, List<String> wanted) {
        for (int k = 0; k < given.size(); k++) {
            if (!wanted.get(k).equals("T") && !model.assignable(given.get(k), wanted.get(k))) {
                return false;
            }
        }
        return true;
    }
}
