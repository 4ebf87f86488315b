import java.util.ArrayList;
import java.util.List;

/** The model's types: "UNSET", "INT", "NULL", "ANY", or a CLASS by its number; wanted may also be "x" (any) and "REF". */
final class ModelTypes {
    private final Model model;
    private final Model.Method m;
    private boolean changed = true;

    ModelTypes(Model model, Model.Method m) {
        this.model = model;
        this.m = m;
    }

    static int number(String type) {
        return List.of("UNSET", "INT", "NULL", "ANY").contains(type)
                ? List.of("UNSET", "INT", "NULL", "ANY").indexOf(type) : 4 + Integer.parseInt(type);
    }

    private static String word(int type) {
        return type == 0 ? "INT" : Integer.toString(type - 1);
    }

    void find() {
        Model.Instruction first = m.code.get(0);
        first.stack = new ArrayList<>();
        first.locals = new ArrayList<>();
        if (!m.isStatic) {
            first.locals.add(Integer.toString(m.owner));
        }
        for (int type : m.params) {
            first.locals.add(word(type));
        }
        while (first.locals.size() < m.locals) {
            first.locals.add("UNSET");
        }
        while (changed) {
            changed = false;
            for (int i = 0; i < m.code.size(); i++) {
                if (m.code.get(i).stack != null) {
                    lookAt(i);
                }
            }
        }
    }

    private Model.Fault fault(int number, int i) {
        return new Model.Fault(number, m.owner, m.place, i);
    }

    private void lookAt(int i) {
        Model.Instruction one = m.code.get(i);
        List<String> stack = new ArrayList<>(one.stack);
        List<String> locals = new ArrayList<>(one.locals);
        List<String> wanted = takes(one);
        if (stack.size() < wanted.size()) {
            throw fault(3, i);
        }
        List<String> taken = new ArrayList<>();
        for (String want : Model.reversed(wanted)) {
            String type = stack.remove(stack.size() - 1);
            if (!fits(type, want)) {
                throw fault(4, i);
            }
            taken.add(0, type);
        }
        if (one.op == 2 && locals.get(one.a).equals("UNSET")) {
            throw fault(4, i);
        }
        stack.addAll(gives(one, taken));
        if (stack.size() > 10) {
            throw fault(5, i);
        }
        if (one.op == 3) {
            locals.set(one.a, taken.get(0));
        }
        if (one.goesOn()) {
            if (i + 1 == m.code.size()) {
                throw fault(7, i);
            }
            come(m.code.get(i + 1), stack, locals, i);
        }
        if (one.jumps()) {
            come(one.target, stack, locals, i);
        }
    }

    private void come(Model.Instruction to, List<String> stack, List<String> locals, int i) {
        if (to.stack == null) {
            to.stack = new ArrayList<>(stack);
            to.locals = new ArrayList<>(locals);
            changed = true;
            return;
        }
        if (to.stack.size() != stack.size()) {
            throw fault(6, i);
        }
        for (int k = 0; k < stack.size(); k++) {
            if (stack.get(k).equals("INT") ^ to.stack.get(k).equals("INT")) {
                throw fault(6, i);
            }
        }
        meetAll(to.stack, stack);
        meetAll(to.locals, locals);
    }

    private void meetAll(List<String> row, List<String> other) {
        for (int k = 0; k < row.size(); k++) {
            String met = meet(row.get(k), other.get(k));
            changed |= !met.equals(row.set(k, met));
        }
    }

    private String meet(String a, String b) {
        if (a.equals(b)) {
            return a;
        }
        if (a.equals("UNSET") || b.equals("UNSET") || a.equals("INT") || b.equals("INT")) {
            return "UNSET";
        }
        if (a.equals("NULL")) {
            return b;
        }
        if (b.equals("NULL")) {
            return a;
        }
        if (a.equals("ANY") || b.equals("ANY")) {
            return "ANY";
        }
        List<Integer> row = model.above(Integer.parseInt(a));
        row.add(0, Integer.parseInt(a));
        for (int c : row) {
            if (model.covers(c, Integer.parseInt(b))) {
                return Integer.toString(c);
            }
        }
        return "ANY";
    }

    private boolean fits(String type, String want) {
        switch (want) {
            case "x":
                return true;
            case "REF":
                return !type.equals("INT");
            case "INT":
                return type.equals("INT");
            default:
                return type.equals("NULL") || !type.equals("INT") && !type.equals("ANY")
                        && model.covers(Integer.parseInt(want), Integer.parseInt(type));
        }
    }

    private String typeOfField(Model.Instruction one) {
        return word(model.classes.get(one.a).fields.get(one.b).type);
    }

    private List<String> takes(Model.Instruction one) {
        switch (one.op) {
            case 3: case 4: case 5:
                return List.of("x");
            case 6: case 7: case 8: case 9: case 10: case 13:
                return List.of("INT", "INT");
            case 12: case 23:
                return List.of("INT");
            case 14: case 24: case 25:
                return List.of("REF");
            case 16:
                return List.of(Integer.toString(one.a));
            case 17:
                return List.of(Integer.toString(one.a), typeOfField(one));
            case 19:
                return List.of(typeOfField(one));
            case 20: case 21:
                List<String> all = new ArrayList<>();
                if (!model.told(one).isStatic) {
                    all.add(Integer.toString(one.a));
                }
                for (int type : model.told(one).params) {
                    all.add(word(type));
                }
                return all;
            case 22:
                return m.result == 0 ? List.of() : List.of(word(m.result - 1));
            default:
                return List.of();
        }
    }

    private List<String> gives(Model.Instruction one, List<String> taken) {
        switch (one.op) {
            case 0: case 6: case 7: case 8: case 9: case 10: case 25:
                return List.of("INT");
            case 1:
                return List.of("NULL");
            case 2:
                return List.of(one.locals.get(one.a));
            case 5:
                return List.of(taken.get(0), taken.get(0));
            case 15: case 24:
                return List.of(Integer.toString(one.a));
            case 16: case 18:
                return List.of(typeOfField(one));
            case 20: case 21:
                return model.told(one).result == 0 ? List.of() : List.of(word(model.told(one).result - 1));
            default:
                return List.of();
        }
    }
}
