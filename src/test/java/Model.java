import java.util.ArrayList;
import java.util.Collections;
import java.util.HashSet;
import java.util.List;
import java.util.Set;

/**
 * The program of the document once more, as its words have it: with lists and objects, jumps that hold what they go to,
 * types that are words. It is slow, and shares no code with ShrinkHouse.
 */
final class Model {
    static final int NONE = -1;

    /** A FAULT, with what fault(0) to fault(3) tell of it. */
    static final class Fault extends RuntimeException {
        private static final long serialVersionUID = 1L;
        final transient int[] told;

        Fault(int... told) {
            this.told = told;
        }
    }

    static final class Field {
        int name;
        int type;
        boolean isStatic;
    }

    static final class Instruction {
        int op;
        int a;
        int b;
        /** What a jump goes to. */
        Instruction target;
        final List<Integer> origin = new ArrayList<>();
        /** Its STATE, null if it is not reached: words on the stack and in the LOCALS. */
        List<String> stack;
        List<String> locals;

        Instruction copy() {
            Instruction other = new Instruction();
            other.op = op;
            other.a = a;
            other.b = b;
            other.target = target;
            other.origin.addAll(origin);
            other.stack = stack;
            return other;
        }

        boolean jumps() {
            return op >= 11 && op <= 14;
        }

        boolean goesOn() {
            return op != 11 && op != 22 && op != 26;
        }
    }

    static final class Method {
        int number;
        int owner;
        int place;
        int name;
        boolean isStatic;
        int result;
        final List<Integer> params = new ArrayList<>();
        int locals;
        List<Instruction> code = new ArrayList<>();
    }

    static final class Klass {
        int name;
        int above;
        final List<Field> fields = new ArrayList<>();
        final List<Method> methods = new ArrayList<>();
    }

    final int[] bytes;
    final List<Klass> classes = new ArrayList<>();
    final List<Method> methods = new ArrayList<>();
    private int at = 0;
    /** Instructions that tell a FIELD or METHOD, and the place of its number. */
    private final List<Instruction> tellers = new ArrayList<>();
    private final List<Integer> tellerPlaces = new ArrayList<>();

    Model(int[] bytes) {
        this.bytes = bytes;
        readAll();
        findTwo();
        for (Method m : methods) {
            new ModelTypes(this, m).find();
        }
    }

    private int next(int low, int high) {
        if (at >= bytes.length || bytes[at] < low || bytes[at] > high) {
            throw new Fault(1, at, NONE, NONE);
        }
        return bytes[at++];
    }

    private void readAll() {
        next(83, 83);
        next(72, 72);
        int count = next(1, 10);
        for (int c = 0; c < count; c++) {
            readClass(c, count);
        }
        if (at < bytes.length) {
            throw new Fault(1, at, NONE, NONE);
        }
        for (int n = 0; n < tellers.size(); n++) {
            if (!tellsRight(tellers.get(n))) {
                throw new Fault(1, tellerPlaces.get(n), NONE, NONE);
            }
        }
    }

    private void readClass(int c, int count) {
        Klass klass = new Klass();
        classes.add(klass);
        klass.name = next(1, 255);
        klass.above = next(0, c) - 1;
        int fields = next(0, 6);
        for (int k = 0; k < fields; k++) {
            Field field = new Field();
            field.name = next(1, 255);
            field.type = next(0, count);
            field.isStatic = next(0, 1) == 1;
            klass.fields.add(field);
        }
        int many = next(0, 8);
        for (int k = 0; k < many; k++) {
            readMethod(c, k, count);
        }
    }

    private void readMethod(int c, int place, int count) {
        Method m = new Method();
        m.number = methods.size();
        m.owner = c;
        m.place = place;
        m.name = next(1, 255);
        m.isStatic = next(0, 1) == 1;
        m.result = next(0, count + 1);
        int params = next(0, 3);
        for (int k = 0; k < params; k++) {
            m.params.add(next(0, count));
        }
        m.locals = next(params + (m.isStatic ? 0 : 1), 20);
        int length = next(1, 120);
        for (int i = 0; i < length; i++) {
            m.code.add(readInstruction(m, length, count));
            m.code.get(i).origin.add(1000 * m.number + i);
        }
        for (Instruction one : m.code) {
            if (one.jumps()) {
                one.target = m.code.get(one.a);
            }
        }
        classes.get(c).methods.add(m);
        methods.add(m);
    }

    private Instruction readInstruction(Method m, int length, int count) {
        Instruction one = new Instruction();
        one.op = next(0, 26);
        if (one.op == 0) {
            for (int k = 0; k < 4; k++) {
                one.a = one.a * 256 + next(0, 255);
            }
        } else if (one.op == 2 || one.op == 3) {
            one.a = next(0, m.locals - 1);
        } else if (one.jumps()) {
            one.a = next(0, length - 1);
        } else if (one.op == 15 || one.op == 24 || one.op == 25) {
            one.a = next(0, count - 1);
        } else if (one.op >= 16 && one.op <= 21) {
            one.a = next(0, count - 1);
            tellers.add(one);
            tellerPlaces.add(at);
            one.b = next(0, 255);
        }
        return one;
    }

    private boolean tellsRight(Instruction one) {
        Klass told = classes.get(one.a);
        if (one.op >= 20) {
            return one.b < told.methods.size() && (one.op == 20 || !told.methods.get(one.b).isStatic);
        }
        return one.b < told.fields.size() && told.fields.get(one.b).isStatic == one.op >= 18;
    }

    private void findTwo() {
        for (int c = 0; c < classes.size(); c++) {
            Klass klass = classes.get(c);
            Set<Integer> names = new HashSet<>();
            for (int k = 0; k < klass.fields.size(); k++) {
                if (!names.add(klass.fields.get(k).name)) {
                    throw new Fault(2, c, k, 0);
                }
            }
            names.clear();
            for (Method m : klass.methods) {
                if (!names.add(m.name) || clashesAbove(m)) {
                    throw new Fault(2, c, m.place, 1);
                }
            }
        }
    }

    private boolean clashesAbove(Method m) {
        for (int c : above(m.owner)) {
            for (Method other : classes.get(c).methods) {
                boolean alike = !m.isStatic && !other.isStatic && m.result == other.result && m.params.equals(other.params);
                if (other.name == m.name && !alike) {
                    return true;
                }
            }
        }
        return false;
    }

    /** The CLASSES above it, the nearest first. */
    List<Integer> above(int c) {
        List<Integer> all = new ArrayList<>();
        for (int x = classes.get(c).above; x != NONE; x = classes.get(x).above) {
            all.add(x);
        }
        return all;
    }

    boolean covers(int c, int other) {
        return c == other || above(other).contains(c);
    }

    Method told(Instruction one) {
        return classes.get(one.a).methods.get(one.b);
    }

    /** The METHOD that a SEND of such a NAME takes for an object of that CLASS. */
    Method meaning(int c, int name) {
        List<Integer> row = above(c);
        row.add(0, c);
        for (int x : row) {
            for (Method m : classes.get(x).methods) {
                if (m.name == name) {
                    return m;
                }
            }
        }
        throw new IllegalStateException("an object of CLASS " + c + " has no such METHOD");
    }

    int instructions() {
        int sum = 0;
        for (Method m : methods) {
            sum += m.code.size();
        }
        return sum;
    }

    int fields() {
        int sum = 0;
        for (Klass klass : classes) {
            sum += klass.fields.size();
        }
        return sum;
    }

    static int reckon(int op, int a, int b) {
        switch (op) {
            case 6:
                return a + b;
            case 7:
                return a - b;
            case 8:
                return a * b;
            case 9:
                return (int) ((long) a / b);
            default:
                return (int) ((long) a - (long) a / b * b);
        }
    }

    static <T> List<T> reversed(List<T> row) {
        List<T> other = new ArrayList<>(row);
        Collections.reverse(other);
        return other;
    }
}
