import java.util.ArrayList;
import java.util.HashMap;
import java.util.List;
import java.util.Map;
import java.util.Set;
import java.util.TreeMap;
import java.util.TreeSet;

/** THE SMALL PROGRAM in the model. */
final class ModelShrink {
    private final Model model;
    private final List<Integer> entries;
    private final int budget;
    /** Codes of REACHED METHODS, by their numbers, as they are so far. */
    private final Map<Integer, List<Model.Instruction>> codes = new TreeMap<>();
    private final Map<Integer, Integer> locals = new HashMap<>();
    private Set<Integer> reached = new TreeSet<>();
    private Set<Integer> live = new TreeSet<>();
    /** As made() tells them. */
    final int[] made = new int[23];
    private final Set<Integer> keptClasses = new TreeSet<>();
    private final Set<Integer> keptMethods = new TreeSet<>();
    /** 100 times the CLASS and the FIELD's place. */
    private final Set<Integer> keptFields = new TreeSet<>();
    private final List<Integer> bytes = new ArrayList<>();
    /** By new numbers, of each instruction. */
    final List<List<List<Integer>>> origins = new ArrayList<>();

    ModelShrink(Model model, List<Integer> entries, int budget) {
        this.model = model;
        this.entries = entries;
        this.budget = budget;
        for (Model.Method m : model.methods) {
            codes.put(m.number, m.code);
        }
        find(false);
        for (int number : reached) {
            bind(model.methods.get(number));
        }
        Map<Integer, List<Model.Instruction>> bound = new TreeMap<>(codes);
        for (int number : reached) {
            putIn(number, bound);
        }
        for (int number : reached) {
            new ModelRules(codes.get(number), made).doAll();
        }
        find(true);
        keep();
        write();
    }

    private void find(boolean all) {
        reached = new TreeSet<>(entries);
        live = new TreeSet<>();
        int size = 0;
        while (size != reached.size() + live.size()) {
            size = reached.size() + live.size();
            for (int number : new ArrayList<>(reached)) {
                for (Model.Instruction one : codes.get(number)) {
                    if (all || one.stack != null) {
                        reachFrom(one);
                    }
                }
            }
        }
    }

    private void reachFrom(Model.Instruction one) {
        if (one.op == 15) {
            live.add(one.a);
        } else if (one.op == 20) {
            reached.add(model.told(one).number);
        } else if (one.op == 21) {
            reached.addAll(meanings(one));
        }
    }

    private Set<Integer> meanings(Model.Instruction send) {
        Set<Integer> all = new TreeSet<>();
        for (int c : live) {
            if (model.covers(send.a, c)) {
                all.add(model.meaning(c, model.told(send).name).number);
            }
        }
        return all;
    }

    private void bind(Model.Method m) {
        List<Model.Instruction> code = new ArrayList<>();
        for (Model.Instruction one : m.code) {
            code.add(one.copy());
        }
        for (Model.Instruction one : code) {
            if (one.jumps()) {
                one.target = code.get(one.a);
            }
            if (one.op == 21 && one.stack != null && meanings(one).size() == 1) {
                Model.Method only = model.methods.get(meanings(one).iterator().next());
                if (model.covers(only.owner, one.a)) {
                    one.op = 20;
                    one.a = only.owner;
                    one.b = only.place;
                    made[0]++;
                }
            }
        }
        codes.put(m.number, code);
        locals.put(m.number, m.locals);
    }

    private boolean isLeaf(Model.Method m, List<Model.Instruction> code) {
        if (!m.isStatic || code.size() > budget) {
            return false;
        }
        for (Model.Instruction one : code.subList(0, code.size() - 1)) {
            if (one.op > 10 && one.op < 15 || one.op > 19 && one.op < 23 || one.op > 25) {
                return false;
            }
        }
        Model.Instruction last = code.get(code.size() - 1);
        return last.op == 22 && last.stack.size() == (m.result == 0 ? 0 : 1);
    }

    private void putIn(int number, Map<Integer, List<Model.Instruction>> bound) {
        List<Model.Instruction> code = new ArrayList<>(codes.get(number));
        for (int i = 0; i < code.size(); i++) {
            Model.Instruction call = code.get(i);
            if (call.op != 20 || call.stack == null) {
                continue;
            }
            Model.Method told = model.told(call);
            List<Model.Instruction> leaf = bound.get(told.number);
            if (!isLeaf(told, leaf) || !hasRoom(number, code.size(), call, told, leaf)) {
                continue;
            }
            List<Model.Instruction> instead = instead(call, told, leaf, locals.get(number));
            locals.put(number, locals.get(number) + told.locals);
            code.remove(i);
            code.addAll(i, instead);
            ModelRules.goElsewhere(code, call, code.get(i));
            i += instead.size() - 1;
            made[1]++;
        }
        codes.put(number, code);
    }

    private boolean hasRoom(int number, int size, Model.Instruction call, Model.Method told, List<Model.Instruction> leaf) {
        boolean stack = true;
        for (Model.Instruction one : leaf) {
            stack &= call.stack.size() - told.params.size() + one.stack.size() <= 10;
        }
        return stack && locals.get(number) + told.locals <= 20 && size - 1 + told.params.size() + leaf.size() - 1 <= 120;
    }

    private static List<Model.Instruction> instead(Model.Instruction call, Model.Method told, List<Model.Instruction> leaf,
            int p) {
        List<Model.Instruction> row = new ArrayList<>();
        for (int k = told.params.size() - 1; k >= 0; k--) {
            Model.Instruction store = new Model.Instruction();
            store.op = 3;
            store.a = p + k;
            store.origin.addAll(call.origin);
            row.add(store);
        }
        for (Model.Instruction one : leaf.subList(0, leaf.size() - 1)) {
            Model.Instruction copy = one.copy();
            copy.a += one.op == 2 || one.op == 3 ? p : 0;
            copy.origin.addAll(call.origin);
            row.add(copy);
        }
        return row;
    }

    private void keep() {
        keptMethods.addAll(reached);
        keptClasses.addAll(live);
        for (int number : reached) {
            for (Model.Instruction one : codes.get(number)) {
                if (one.op == 21 && keptMethods.add(model.told(one).number)) {
                    made[3]++;
                } else if (one.op >= 16 && one.op <= 19) {
                    keptFields.add(100 * one.a + one.b);
                } else if (one.op == 24 || one.op == 25) {
                    keptClasses.add(one.a);
                }
            }
        }
        for (int field : keptFields) {
            keptClasses.add(field / 100);
            keepType(model.classes.get(field / 100).fields.get(field % 100).type);
        }
        for (int number : keptMethods) {
            Model.Method m = model.methods.get(number);
            keptClasses.add(m.owner);
            keepType(m.result - 1);
            for (int type : m.params) {
                keepType(type);
            }
        }
        for (int c : new ArrayList<>(keptClasses)) {
            keptClasses.addAll(model.above(c));
        }
    }

    private void keepType(int type) {
        if (type > 0) {
            keptClasses.add(type - 1);
        }
    }

    /** How many of the row are less than it; NONE if it is not in it. */
    private static int place(Set<Integer> row, int one) {
        return row.contains(one) ? new ArrayList<>(row).indexOf(one) : Model.NONE;
    }

    int newClass(int c) {
        return place(keptClasses, c);
    }

    int newField(int c, int k) {
        Set<Integer> own = new TreeSet<>(keptFields);
        own.removeIf(field -> field / 100 != c);
        return place(own, 100 * c + k);
    }

    int newMethod(int number) {
        return place(keptMethods, number);
    }

    /** Its new number in its CLASS. */
    int newPlace(Model.Method m) {
        Set<Integer> own = new TreeSet<>(keptMethods);
        own.removeIf(number -> model.methods.get(number).owner != m.owner);
        return place(own, m.number);
    }

    int[] container() {
        int[] row = new int[bytes.size()];
        for (int i = 0; i < row.length; i++) {
            row[i] = bytes.get(i) & 255;
        }
        return row;
    }

    private Map<Integer, Integer> newNames() {
        Map<Integer, Integer> names = new TreeMap<>();
        for (int number : keptMethods) {
            Model.Method m = model.methods.get(number);
            int name = Model.NONE;
            for (int c : Model.reversed(model.above(m.owner))) {
                for (Model.Method other : model.classes.get(c).methods) {
                    if (other.name == m.name && keptMethods.contains(other.number)) {
                        name = names.get(other.number);
                    }
                }
            }
            Set<Integer> used = new TreeSet<>();
            for (int other : names.keySet()) {
                if (model.covers(model.methods.get(other).owner, m.owner)) {
                    used.add(names.get(other));
                }
            }
            for (int least = 1; name == Model.NONE; least++) {
                name = used.contains(least) ? Model.NONE : least;
            }
            names.put(number, name);
        }
        return names;
    }

    private int typeAnew(int type) {
        return type == 0 ? 0 : newClass(type - 1) + 1;
    }

    private void write() {
        Map<Integer, Integer> names = newNames();
        bytes.addAll(List.of(83, 72, keptClasses.size()));
        for (int c : keptClasses) {
            Model.Klass klass = model.classes.get(c);
            bytes.add(newClass(c) + 1);
            bytes.add(klass.above == Model.NONE ? 0 : newClass(klass.above) + 1);
            int countAt = bytes.size();
            bytes.add(0);
            for (int k = 0; k < klass.fields.size(); k++) {
                if (newField(c, k) != Model.NONE) {
                    bytes.set(countAt, bytes.get(countAt) + 1);
                    Model.Field field = klass.fields.get(k);
                    bytes.addAll(List.of(newField(c, k) + 1, typeAnew(field.type), field.isStatic ? 1 : 0));
                }
            }
            countAt = bytes.size();
            bytes.add(0);
            for (Model.Method m : klass.methods) {
                if (keptMethods.contains(m.number)) {
                    bytes.set(countAt, bytes.get(countAt) + 1);
                    write(m, names.get(m.number));
                }
            }
        }
    }

    private void write(Model.Method m, int name) {
        boolean shell = !reached.contains(m.number);
        bytes.add(name);
        bytes.add(m.isStatic ? 1 : 0);
        bytes.add(m.result < 2 ? m.result : newClass(m.result - 2) + 2);
        bytes.add(m.params.size());
        for (int type : m.params) {
            bytes.add(typeAnew(type));
        }
        bytes.add(shell ? m.params.size() + (m.isStatic ? 0 : 1) : locals.get(m.number));
        List<List<Integer>> places = new ArrayList<>();
        origins.add(places);
        if (shell) {
            bytes.addAll(List.of(1, 26));
            places.add(List.of());
            return;
        }
        List<Model.Instruction> code = codes.get(m.number);
        bytes.add(code.size());
        for (Model.Instruction one : code) {
            places.add(one.origin);
            write(one, code);
        }
    }

    private void write(Model.Instruction one, List<Model.Instruction> code) {
        bytes.add(one.op);
        if (one.op == 0) {
            bytes.addAll(List.of(one.a >>> 24, one.a >>> 16, one.a >>> 8, one.a));
        } else if (one.op == 2 || one.op == 3) {
            bytes.add(one.a);
        } else if (one.jumps()) {
            bytes.add(code.indexOf(one.target));
        } else if (one.op == 15 || one.op >= 24 && one.op <= 25) {
            bytes.add(newClass(one.a));
        } else if (one.op >= 16 && one.op <= 19) {
            bytes.addAll(List.of(newClass(one.a), newField(one.a, one.b)));
        } else if (one.op == 20 || one.op == 21) {
            bytes.addAll(List.of(newClass(one.a), newPlace(model.told(one))));
        }
    }
}
