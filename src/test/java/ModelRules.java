import java.util.ArrayList;
import java.util.Collections;
import java.util.IdentityHashMap;
import java.util.List;
import java.util.Set;

/** The RULES in the model: each of them looks for itself whether it fits at a place. */
final class ModelRules {
    private final List<Model.Instruction> code;
    private final int[] made;

    ModelRules(List<Model.Instruction> code, int[] made) {
        this.code = code;
        this.made = made;
    }

    static void goElsewhere(List<Model.Instruction> code, Model.Instruction from, Model.Instruction to) {
        for (Model.Instruction one : code) {
            if (one.jumps() && one.target == from) {
                one.target = to;
            }
        }
    }

    void doAll() {
        while (doFirst()) {
            made[2]++;
        }
    }

    private boolean doFirst() {
        for (int i = 0; i < code.size(); i++) {
            for (int rule = 1; rule <= 12; rule++) {
                if (fits(rule, i)) {
                    made[10 + rule]++;
                    change(rule, i);
                    return true;
                }
            }
        }
        return false;
    }

    private Set<Model.Instruction> reached() {
        Set<Model.Instruction> all = Collections.newSetFromMap(new IdentityHashMap<>());
        List<Model.Instruction> todo = new ArrayList<>(List.of(code.get(0)));
        while (!todo.isEmpty()) {
            Model.Instruction one = todo.remove(todo.size() - 1);
            if (one == null || !all.add(one)) {
                continue;
            }
            int next = code.indexOf(one) + 1;
            if (one.goesOn() && next < code.size()) {
                todo.add(code.get(next));
            }
            if (one.jumps()) {
                todo.add(one.target);
            }
        }
        return all;
    }

    /** Whether these OPS stand at i in a row, and no jump goes to one of them but the first. */
    private boolean stands(int i, int... ops) {
        if (i + ops.length > code.size()) {
            return false;
        }
        for (int k = 0; k < ops.length; k++) {
            Model.Instruction one = code.get(i + k);
            if (one.op != ops[k] || k > 0 && isAimedAt(one)) {
                return false;
            }
        }
        return true;
    }

    private boolean isAimedAt(Model.Instruction one) {
        for (Model.Instruction jump : code) {
            if (jump.jumps() && jump.target == one) {
                return true;
            }
        }
        return false;
    }

    private Model.Instruction lead(Model.Instruction from) {
        Model.Instruction one = from.target;
        for (int n = 0; n <= code.size() && one != null && one.op == 11; n++) {
            one = one.target;
        }
        return one == null || one.op == 11 ? null : one;
    }

    private boolean goesToNext(int i) {
        return i + 1 < code.size() && code.get(i).target == code.get(i + 1);
    }

    private boolean fits(int rule, int i) {
        Model.Instruction one = code.get(i);
        switch (rule) {
            case 1:
                return !reached().contains(one);
            case 2:
                return one.op == 11 && goesToNext(i);
            case 3:
                return one.jumps() && one.target != null && one.target.op == 11 && lead(one) != null;
            case 4:
                for (int op = 6; op <= 10; op++) {
                    if (stands(i, 0, 0, op) && (op < 9 || code.get(i + 1).a != 0)) {
                        return true;
                    }
                }
                return false;
            case 5:
                return stands(i, 0, 4) || stands(i, 1, 4) || stands(i, 2, 4) || stands(i, 5, 4);
            case 6:
                return stands(i, 0, 12);
            case 7:
                return stands(i, 0, 0, 13);
            case 8:
                return stands(i, 1, 14);
            case 9:
                return one.a == 0 && (stands(i, 0, 6) || stands(i, 0, 7)) || one.a == 1 && (stands(i, 0, 8) || stands(i, 0, 9));
            case 10:
                return one.op == 3 && code.stream().noneMatch(other -> other.op == 2 && other.a == one.a);
            case 11:
                return stands(i, 2, 3) && one.a == code.get(i + 1).a;
            default:
                return (one.op == 12 || one.op == 14) && goesToNext(i);
        }
    }

    private void change(int rule, int i) {
        Model.Instruction one = code.get(i);
        switch (rule) {
            case 3:
                one.target = lead(one);
                break;
            case 4:
                int op = code.get(i + 2).op;
                put(i, 3, make(0, Model.reckon(op, one.a, code.get(i + 1).a), null, code.get(i + 2)));
                break;
            case 6:
                put(i, 2, one.a == 0 ? make(11, 0, code.get(i + 1).target, code.get(i + 1)) : null);
                break;
            case 7:
                boolean less = one.a < code.get(i + 1).a;
                put(i, 3, less ? make(11, 0, code.get(i + 2).target, code.get(i + 2)) : null);
                break;
            case 8:
                put(i, 2, make(11, 0, code.get(i + 1).target, code.get(i + 1)));
                break;
            case 10: case 12:
                put(i, 1, make(4, 0, null, one));
                break;
            default:
                put(i, rule <= 2 ? 1 : 2, null);
                break;
        }
    }

    private static Model.Instruction make(int op, int a, Model.Instruction target, Model.Instruction last) {
        Model.Instruction made = new Model.Instruction();
        made.op = op;
        made.a = a;
        made.target = target;
        made.origin.addAll(last.origin);
        return made;
    }

    /** So many go, and another one, if there is one, comes there. */
    private void put(int i, int many, Model.Instruction instead) {
        List<Model.Instruction> gone = new ArrayList<>(code.subList(i, i + many));
        code.subList(i, i + many).clear();
        if (instead != null) {
            code.add(i, instead);
        }
        for (Model.Instruction one : gone) {
            goElsewhere(code, one, i < code.size() ? code.get(i) : null);
        }
    }
}
