import java.util.ArrayList;
import java.util.HashMap;
import java.util.List;
import java.util.Map;

/** A RUN in the model. */
final class ModelRun {
    private static final class Thing {
        int klass;
        final Map<String, Object> fields = new HashMap<>();
    }

    private static final class Frame {
        Model.Method m;
        int at = 0;
        final List<Object> stack = new ArrayList<>();
        final Map<Integer, Object> locals = new HashMap<>();
    }

    private final Model model;
    private final List<Frame> frames = new ArrayList<>();
    private final Map<String, Object> statics = new HashMap<>();
    int how = 2;
    int steps = 0;
    int trap = 0;
    int objects = 0;
    int mostFrames = 1;
    final List<Integer> output = new ArrayList<>();
    /** Places of the TRACE. */
    final List<Integer> trace = new ArrayList<>();

    ModelRun(Model model, int entry, int most) {
        this.model = model;
        frames.add(frame(model.methods.get(entry)));
        while (how == 2 && steps < most) {
            steps++;
            step();
        }
        if (how == 1) {
            for (Frame frame : Model.reversed(frames)) {
                trace.add(1000 * frame.m.number + frame.at);
            }
        }
    }

    private static Frame frame(Model.Method m) {
        Frame frame = new Frame();
        frame.m = m;
        return frame;
    }

    private Frame top() {
        return frames.get(frames.size() - 1);
    }

    private Object pop() {
        return top().stack.remove(top().stack.size() - 1);
    }

    private int popInt() {
        return (Integer) pop();
    }

    private void trap(int number) {
        how = 1;
        trap = number;
    }

    private void step() {
        Frame frame = top();
        Model.Instruction one = frame.m.code.get(frame.at);
        if (one.op == 20 || one.op == 21) {
            call(one);
        } else if (one.op == 22) {
            giveBack();
        } else if (one.jumps()) {
            frame.at = jumps(one.op) ? frame.m.code.indexOf(one.target) : frame.at + 1;
        } else {
            plain(one);
            frame.at += how == 2 ? 1 : 0;
        }
    }

    private boolean jumps(int op) {
        if (op == 13) {
            int second = popInt();
            return popInt() < second;
        }
        return op == 11 || (op == 12 ? popInt() == 0 : pop() == null);
    }

    private void call(Model.Instruction one) {
        Model.Method told = model.told(one);
        int taken = told.params.size() + (told.isStatic ? 0 : 1);
        List<Object> stack = top().stack;
        List<Object> given = stack.subList(stack.size() - taken, stack.size());
        if (!told.isStatic && given.get(0) == null) {
            trap(1);
            return;
        }
        if (frames.size() == 40) {
            trap(5);
            return;
        }
        Frame next = frame(one.op == 20 ? told : model.meaning(((Thing) given.get(0)).klass, told.name));
        for (int k = 0; k < taken; k++) {
            next.locals.put(k, given.get(k));
        }
        given.clear();
        frames.add(next);
        mostFrames = Math.max(mostFrames, frames.size());
    }

    private void giveBack() {
        Object result = top().m.result == 0 ? null : pop();
        boolean gives = top().m.result != 0;
        if (frames.size() == 1) {
            how = 0;
            return;
        }
        frames.remove(frames.size() - 1);
        if (gives) {
            top().stack.add(result);
        }
        top().at++;
    }

    private Object empty(int c, int k) {
        return model.classes.get(c).fields.get(k).type == 0 ? (Object) 0 : null;
    }

    private void plain(Model.Instruction one) {
        List<Object> stack = top().stack;
        String key = one.a + "." + one.b;
        switch (one.op) {
            case 0:
                stack.add(one.a);
                break;
            case 1:
                stack.add(null);
                break;
            case 2:
                stack.add(top().locals.get(one.a));
                break;
            case 3:
                top().locals.put(one.a, pop());
                break;
            case 4:
                pop();
                break;
            case 5:
                stack.add(stack.get(stack.size() - 1));
                break;
            case 18:
                stack.add(statics.containsKey(key) ? statics.get(key) : empty(one.a, one.b));
                break;
            case 19:
                statics.put(key, pop());
                break;
            case 23:
                output.add(popInt());
                break;
            case 26:
                trap(4);
                break;
            default:
                hard(one, stack, key);
                break;
        }
    }

    private void hard(Model.Instruction one, List<Object> stack, String key) {
        if (one.op == 15) {
            if (objects == 200) {
                trap(6);
                return;
            }
            objects++;
            Thing thing = new Thing();
            thing.klass = one.a;
            stack.add(thing);
            return;
        }
        if (one.op <= 10) {
            int b = popInt();
            int a = popInt();
            if (b == 0 && one.op >= 9) {
                trap(2);
            } else {
                stack.add(Model.reckon(one.op, a, b));
            }
            return;
        }
        Object value = one.op == 17 ? pop() : null;
        Thing thing = (Thing) pop();
        if (one.op >= 24) {
            boolean is = thing != null && model.covers(one.a, thing.klass);
            if (one.op == 24 && thing != null && !is) {
                trap(3);
            } else {
                stack.add(one.op == 24 ? thing : (Object) (is ? 1 : 0));
            }
        } else if (thing == null) {
            trap(1);
        } else if (one.op == 17) {
            thing.fields.put(key, value);
        } else {
            stack.add(thing.fields.containsKey(key) ? thing.fields.get(key) : empty(one.a, one.b));
        }
    }
}
