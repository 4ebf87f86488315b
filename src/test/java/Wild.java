import java.util.ArrayList;
import java.util.List;
import java.util.Random;

/**
 * Random containers whose codes are what RULES and types look at: small numbers, many jumps, code that nobody reaches,
 * jumps to any place with such a stack. Not all of them are without a FAULT.
 */
final class Wild {
    private static final int[] NUMBERS = {0, 0, 0, 1, 1, 2, 7, -1, Integer.MIN_VALUE, Integer.MAX_VALUE};
    private static final String[] RECKON = {"ADD", "SUB", "MUL", "DIV", "REM"};

    /** The face of a METHOD. */
    private static final class Face {
        int owner;
        int place;
        int name;
        boolean isStatic;
        /** Of few instructions, without a jump or CALL. */
        boolean small;
        int result;
        List<Integer> params = new ArrayList<>();
    }

    private final Random random;
    private final int classes;
    private final int[] above;
    /** Of each CLASS its FIELDS: TYPE, then 1 if it is STATIC. */
    private final List<List<int[]>> fields = new ArrayList<>();
    private final List<List<Face>> faces = new ArrayList<>();
    private final List<Face> all = new ArrayList<>();
    private final List<String> code = new ArrayList<>();
    /** What is on the stack ahead of each instruction; a jump can go to where the same is. */
    private final List<List<String>> shapes = new ArrayList<>();
    private List<String> stack = new ArrayList<>();
    private String[] locals;
    private final boolean leaves;
    private final boolean dry;
    private final boolean steady;
    private final int deep;

    Wild(long seed) {
        random = new Random(seed);
        leaves = chance(2);
        dry = chance(3);
        steady = chance(2);
        deep = chance(4) ? 10 : 6;
        classes = 1 + random.nextInt(random.nextInt(8) == 0 ? 10 : 4);
        above = new int[classes];
        for (int c = 0; c < classes; c++) {
            above[c] = random.nextInt(3) == 0 ? 0 : random.nextInt(c + 1);
        }
    }

    private boolean chance(int of) {
        return random.nextInt(of) == 0;
    }

    private int type() {
        return chance(2) ? 0 : 1 + random.nextInt(classes);
    }

    String source() {
        for (int c = 0; c < classes; c++) {
            fields.add(new ArrayList<>());
            if (c == 0) {
                fields.get(0).add(new int[] {0, 1});
            }
            for (int k = random.nextInt(4); k > 0; k--) {
                fields.get(c).add(new int[] {type(), random.nextInt(2)});
            }
            faces.add(new ArrayList<>());
            for (int k = c == 0 ? 2 + random.nextInt(5) : random.nextInt(6); k > 0; k--) {
                addFace(c);
            }
        }
        StringBuilder text = new StringBuilder();
        for (int c = 0; c < classes; c++) {
            text.append("class ").append(1 + random.nextInt(255)).append(' ').append(above[c]).append('\n');
            int name = 1 + random.nextInt(200);
            for (int[] field : fields.get(c)) {
                text.append("field ").append(name++).append(' ').append(field[0]).append(' ').append(field[1]).append('\n');
            }
            for (Face face : faces.get(c)) {
                text.append(method(face));
            }
        }
        return text.toString();
    }

    private void addFace(int c) {
        Face face = new Face();
        face.owner = c;
        face.place = faces.get(c).size();
        Face over = above[c] > 0 && chance(2) ? overridden(c) : null;
        if (over == null) {
            face.name = 1 + all.size() * 3 % 254;
            face.isStatic = chance(2);
            face.small = face.isStatic && chance(2);
            face.result = chance(3) ? 0 : type() + 1;
            boolean entry = face.isStatic && chance(2);
            for (int k = entry ? 0 : random.nextInt(3); k > 0; k--) {
                face.params.add(type());
            }
        } else {
            face.name = over.name;
            face.result = over.result;
            face.params = over.params;
        }
        faces.get(c).add(face);
        all.add(face);
    }

    /** One of a CLASS above that this one does not have yet. */
    private Face overridden(int c) {
        for (int x = above[c] - 1; x >= 0; x = above[x] - 1) {
            for (Face face : faces.get(x)) {
                boolean had = false;
                for (Face own : faces.get(c)) {
                    had |= own.name == face.name;
                }
                if (!face.isStatic && !had && chance(2)) {
                    return face;
                }
            }
        }
        return null;
    }

    private String method(Face face) {
        code.clear();
        shapes.clear();
        stack = new ArrayList<>();
        int first = face.params.size() + (face.isStatic ? 0 : 1);
        locals = new String[Math.min(20, first + random.nextInt(chance(4) ? 10 : 3))];
        if (!face.isStatic) {
            locals[0] = Integer.toString(face.owner);
        }
        for (int k = 0; k < face.params.size(); k++) {
            locals[first - face.params.size() + k] = word(face.params.get(k));
        }
        boolean small = face.small;
        int length = small ? random.nextInt(6) : 2 + random.nextInt(chance(6) ? 70 : 22);
        for (int n = 0; n < length && code.size() < 106; n++) {
            statement(face, small);
        }
        while (small && !stack.isEmpty()) {
            emit("POP");
        }
        end(face);
        StringBuilder text = new StringBuilder("method " + face.name + " " + (face.isStatic ? 1 : 0) + " " + face.result + " "
                + locals.length);
        for (int type : face.params) {
            text.append(' ').append(type);
        }
        text.append('\n');
        for (int i = 0; i < code.size(); i++) {
            text.append(aimed(i)).append('\n');
        }
        return text.toString();
    }

    /** A jump goes to any place that has such a stack; if there is none, to the next one. */
    private String aimed(int i) {
        String line = code.get(i);
        if (!line.endsWith("?")) {
            return line;
        }
        List<String> shape = new ArrayList<>(shapes.get(i));
        int takes = line.startsWith("JUMP") ? 0 : line.startsWith("LESS") ? 2 : 1;
        shape = shape.subList(0, shape.size() - takes);
        List<Integer> can = new ArrayList<>();
        for (int j = 0; j < code.size(); j++) {
            if (kinds(shapes.get(j)).equals(kinds(shape))) {
                can.add(j);
            }
        }
        int next = Math.min(i + 1, code.size() - 1);
        return line.replace("?", Integer.toString(can.isEmpty() || chance(6) ? next : can.get(random.nextInt(can.size()))));
    }

    private static String kinds(List<String> shape) {
        StringBuilder text = new StringBuilder();
        for (String type : shape) {
            text.append(type.equals("INT") ? 'i' : 'r');
        }
        return text.toString();
    }

    private static String word(int type) {
        return type == 0 ? "INT" : Integer.toString(type - 1);
    }

    private void emit(String line, String... comes) {
        shapes.add(new ArrayList<>(stack));
        code.add(line);
        String op = line.split(" ")[0];
        int takes = List.of("STORE", "POP", "ZERO", "NONE", "GET", "WRITE", "OUT", "CAST", "IS").contains(op) ? 1
                : List.of("ADD", "SUB", "MUL", "DIV", "REM", "LESS", "PUT").contains(op) ? 2 : 0;
        drop(takes);
        stack.addAll(List.of(comes));
    }

    private void drop(int many) {
        for (int k = 0; k < many && !stack.isEmpty(); k++) {
            stack.remove(stack.size() - 1);
        }
    }

    private String top() {
        return stack.isEmpty() ? "" : stack.get(stack.size() - 1);
    }

    private void push(String type) {
        if (type.equals("INT") && chance(steady ? 2 : 5)) {
            emit("READ 0 0", type);
            return;
        }
        for (int l = 0; l < locals.length; l++) {
            if (type.equals(locals[l]) && chance(3)) {
                emit("LOAD " + l, type);
                return;
            }
        }
        for (int c = 0; c < classes; c++) {
            for (int k = 0; k < fields.get(c).size(); k++) {
                if (fields.get(c).get(k)[1] == 1 && word(fields.get(c).get(k)[0]).equals(type) && chance(3)) {
                    emit("READ " + c + " " + k, type);
                    return;
                }
            }
        }
        if (type.equals("INT")) {
            emit("INT " + NUMBERS[random.nextInt(NUMBERS.length)], "INT");
        } else if (chance(dry ? 2 : 5)) {
            emit("NULL", type);
        } else {
            int c = Integer.parseInt(type);
            int below = random.nextInt(classes);
            emit("NEW " + (above[below] - 1 == c ? below : c), type);
        }
    }

    private void end(Face face) {
        if (chance(12)) {
            emit("TRAP");
        } else {
            if (face.result > 0) {
                push(word(face.result - 1));
            }
            emit("RETURN");
        }
    }

    private void statement(Face face, boolean small) {
        boolean full = stack.size() > deep;
        int kind = random.nextInt(small ? 9 : leaves ? 18 : 17);
        if (full || kind == 0 && !stack.isEmpty()) {
            emit("POP");
        } else if (kind <= 2) {
            push(chance(3) ? Integer.toString(random.nextInt(classes)) : "INT");
        } else if (kind == 3) {
            store();
        } else if (kind <= 5) {
            reckon();
        } else if (kind <= 8) {
            useTop();
        } else if (kind <= 10) {
            call();
        } else if (kind <= 14) {
            jump();
        } else if (kind <= 16) {
            phrase();
        } else {
            leave(face);
        }
    }

    private void store() {
        if (stack.isEmpty()) {
            push("INT");
        }
        if (locals.length > 0) {
            int l = random.nextInt(locals.length);
            locals[l] = top();
            emit("STORE " + l);
            if (chance(4)) {
                emit("LOAD " + l, locals[l]);
            }
        }
    }

    private void reckon() {
        if (!top().equals("INT")) {
            push("INT");
        }
        push("INT");
        if (chance(8)) {
            emit("POP");
            return;
        }
        emit(RECKON[random.nextInt(5)], "INT");
    }

    private void useTop() {
        if (stack.isEmpty()) {
            push(chance(2) ? "INT" : Integer.toString(random.nextInt(classes)));
        }
        if (chance(5)) {
            emit("DUP", top());
        } else if (top().equals("INT")) {
            emit("OUT");
        } else if (chance(3)) {
            int c = random.nextInt(classes);
            emit("CAST " + c, Integer.toString(c));
        } else if (chance(3)) {
            emit("IS " + random.nextInt(classes), "INT");
        } else {
            useField(Integer.parseInt(top()));
        }
    }

    private void useField(int c) {
        for (int k = 0; k < fields.get(c).size(); k++) {
            int[] field = fields.get(c).get(k);
            String type = word(field[0]);
            if (field[1] == 1 && chance(2)) {
                push(type);
                emit("WRITE " + c + " " + k);
                return;
            }
            if (field[1] == 0) {
                if (chance(2)) {
                    emit("GET " + c + " " + k, type);
                } else {
                    push(type);
                    emit("PUT " + c + " " + k);
                }
                return;
            }
        }
        emit("POP");
    }

    private void call() {
        Face told = all.get(random.nextInt(all.size()));
        for (int n = 0; n < 4 && !told.small && chance(2); n++) {
            told = all.get(random.nextInt(all.size()));
        }
        if (!told.isStatic) {
            push(Integer.toString(told.owner));
        }
        for (int type : told.params) {
            push(word(type));
        }
        emit((told.isStatic || chance(3) ? "CALL " : "SEND ") + told.owner + " " + told.place);
        drop(told.params.size() + (told.isStatic ? 0 : 1));
        if (told.result > 0) {
            stack.add(word(told.result - 1));
        }
    }

    /** What RULES take together. */
    private void phrase() {
        switch (random.nextInt(6)) {
            case 0:
                if (!top().equals("INT")) {
                    push("INT");
                }
                boolean sum = chance(2);
                emit(sum ? "INT 0" : "INT 1", "INT");
                emit(sum ? chance(2) ? "ADD" : "SUB" : chance(2) ? "MUL" : "DIV", "INT");
                break;
            case 1:
                emit("NULL", Integer.toString(random.nextInt(classes)));
                emit("NONE ?");
                break;
            case 2:
                for (int l = 0; l < locals.length; l++) {
                    if (locals[l] != null && chance(2)) {
                        emit("LOAD " + l, locals[l]);
                        emit("STORE " + l);
                        return;
                    }
                }
                break;
            case 3:
                // a JUMP over a JUMP, to which others may go
                emit("JUMP " + (code.size() + 2));
                emit("JUMP ?");
                break;
            case 4:
                push("INT");
                emit("DUP", "INT");
                emit(chance(2) ? "POP" : "OUT");
                break;
            default:
                emit("INT " + NUMBERS[random.nextInt(NUMBERS.length)], "INT");
                emit("INT " + NUMBERS[random.nextInt(NUMBERS.length)], "INT");
                emit("LESS ?");
                break;
        }
    }

    private void jump() {
        switch (random.nextInt(5)) {
            case 0:
                push("INT");
                emit("ZERO " + Math.min(119, code.size() + 2));
                emit("JUMP ?");
                break;
            case 1:
                push("INT");
                push("INT");
                emit("LESS ?");
                break;
            case 2:
                push(Integer.toString(random.nextInt(classes)));
                emit("NONE ?");
                break;
            default:
                push("INT");
                emit("ZERO ?");
                break;
        }
    }

    /** The end of a way; what stands behind it is mostly reached by nobody. */
    private void leave(Face face) {
        if (chance(2)) {
            List<String> before = new ArrayList<>(stack);
            end(face);
            stack = before;
        } else {
            emit("JUMP ?");
        }
        if (chance(2) && !shapes.isEmpty()) {
            stack = new ArrayList<>(shapes.get(random.nextInt(shapes.size())));
        }
    }
}
