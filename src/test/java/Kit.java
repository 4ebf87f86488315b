import java.util.ArrayList;
import java.util.Arrays;
import java.util.HashMap;
import java.util.List;
import java.util.Map;

/** What the tests share: an assembler for containers, and the count of wrong answers. */
final class Kit {
    private static final List<String> OPS = Arrays.asList(
            "INT", "NULL", "LOAD", "STORE", "POP", "DUP", "ADD", "SUB", "MUL", "DIV", "REM", "JUMP", "ZERO", "LESS",
            "NONE", "NEW", "GET", "PUT", "READ", "WRITE", "CALL", "SEND", "RETURN", "OUT", "CAST", "IS", "TRAP");
    static final int NONE = ShrinkHouse.NONE;
    private static int wrong = 0;

    private Kit() {
    }

    static void due(String call, long got, long want) {
        if (got != want) {
            wrong++;
            System.out.println("  " + call + " answered " + got + ", due is " + want);
        }
    }

    static void due(String call, boolean got, boolean want) {
        due(call, got ? 1 : 0, want ? 1 : 0);
    }

    static void due(String call, String got, String want) {
        if (!got.equals(want)) {
            wrong++;
            System.out.println("  " + call + " answered " + got + ", due is " + want);
        }
    }

    static void finish() {
        System.out.println(wrong == 0 ? "  all answers are as due" : "  " + wrong + " answers are not as due");
        if (wrong != 0) {
            System.exit(1);
        }
    }

    /**
     * A container, of lines: "class NAME SUPER", "field NAME TYPE STATIC", "method NAME STATIC RESULT LOCALS TYPES..",
     * and instructions, with "label:" ahead of them (a jump tells a label or a number). What follows a # is left out.
     */
    static int[] bytes(String source) {
        List<Integer> out = new ArrayList<>(List.of(83, 72, 0));
        int fieldsAt = -1;
        int methodsAt = -1;
        int codeAt = -1;
        Map<String, Integer> labels = new HashMap<>();
        Map<Integer, String> jumps = new HashMap<>();
        for (String line : source.split("[\n;]")) {
            String text = line.replaceAll("#.*", "").trim();
            if (text.isEmpty()) {
                continue;
            }
            String[] word = text.split(" +");
            if (word[0].endsWith(":")) {
                labels.put(word[0].substring(0, word[0].length() - 1), out.get(codeAt));
                word = Arrays.copyOfRange(word, 1, word.length);
                if (word.length == 0) {
                    continue;
                }
            }
            if (word[0].equals("class")) {
                aim(out, jumps, labels);
                out.set(2, out.get(2) + 1);
                out.add(Integer.parseInt(word[1]));
                out.add(Integer.parseInt(word[2]));
                fieldsAt = out.size();
                out.add(0);
                methodsAt = out.size();
                out.add(0);
            } else if (word[0].equals("field")) {
                out.set(fieldsAt, out.get(fieldsAt) + 1);
                for (int k = 1; k < 4; k++) {
                    out.add(methodsAt, Integer.parseInt(word[k]));
                    methodsAt++;
                }
            } else if (word[0].equals("method")) {
                aim(out, jumps, labels);
                out.set(methodsAt, out.get(methodsAt) + 1);
                for (int k = 1; k < 4; k++) {
                    out.add(Integer.parseInt(word[k]));
                }
                out.add(word.length - 5);
                for (int k = 5; k < word.length; k++) {
                    out.add(Integer.parseInt(word[k]));
                }
                out.add(Integer.parseInt(word[4]));
                codeAt = out.size();
                out.add(0);
            } else {
                out.set(codeAt, out.get(codeAt) + 1);
                instruction(out, word, jumps);
            }
        }
        aim(out, jumps, labels);
        int[] row = new int[out.size()];
        for (int i = 0; i < row.length; i++) {
            row[i] = out.get(i);
        }
        return row;
    }

    private static void aim(List<Integer> out, Map<Integer, String> jumps, Map<String, Integer> labels) {
        for (Map.Entry<Integer, String> jump : jumps.entrySet()) {
            out.set(jump.getKey(), labels.get(jump.getValue()));
        }
        jumps.clear();
        labels.clear();
    }

    private static void instruction(List<Integer> out, String[] word, Map<Integer, String> jumps) {
        int op = OPS.indexOf(word[0]);
        if (op < 0) {
            throw new IllegalArgumentException(word[0]);
        }
        out.add(op);
        if (op == 0) {
            int value = Integer.parseInt(word[1]);
            for (int shift = 24; shift >= 0; shift -= 8) {
                out.add(value >> shift & 255);
            }
            return;
        }
        for (int k = 1; k < word.length; k++) {
            if (!Character.isDigit(word[k].charAt(0))) {
                jumps.put(out.size(), word[k]);
                out.add(0);
            } else {
                out.add(Integer.parseInt(word[k]));
            }
        }
    }

    /** The bytes come to the TAPE, and nothing else. */
    static void feed(ShrinkHouse x, int... bytes) {
        int[] padded = Arrays.copyOf(bytes, (bytes.length + 19) / 20 * 20);
        for (int at = 0; at < padded.length; at += 20) {
            int[] five = new int[5];
            for (int k = 0; k < 20; k++) {
                five[k / 4] = five[k / 4] << 8 | padded[at + k];
            }
            due("feed", x.feed(five[0], five[1], five[2], five[3], five[4]), true);
        }
        due("end(" + bytes.length + ")", x.end(bytes.length), true);
    }

    /** What read() of a new object answers to these bytes, and what fault() tells of it then. */
    static ShrinkHouse dueFault(String what, int[] bytes, int number, int first, int second, int third) {
        ShrinkHouse x = new ShrinkHouse();
        feed(x, bytes);
        due(what + ": read()", x.read(), number);
        due(what + ": fault(0)", x.fault(0), number);
        due(what + ": fault(1)", x.fault(1), first);
        due(what + ": fault(2)", x.fault(2), second);
        due(what + ": fault(3)", x.fault(3), third);
        return x;
    }

    static ShrinkHouse dueFault(String source, int number, int first, int second, int third) {
        return dueFault(source, bytes(source), number, first, second, third);
    }

    static ShrinkHouse dueNoFault(String source) {
        return dueFault(source, 0, NONE, NONE, NONE);
    }

    static int read(ShrinkHouse x, String source) {
        feed(x, bytes(source));
        return x.read();
    }

    static ShrinkHouse house(String source) {
        ShrinkHouse x = new ShrinkHouse();
        due("read()", read(x, source), 0);
        return x;
    }

    static String shrink(ShrinkHouse x, int budget) {
        try {
            return Integer.toString(x.shrink(budget));
        } catch (IllegalArgumentException e) {
            return "throws.IllegalArgumentException";
        } catch (IllegalStateException e) {
            return "throws.IllegalStateException";
        }
    }

    static String run(ShrinkHouse x, boolean small, int e, int steps) {
        try {
            return Integer.toString(x.run(small, e, steps));
        } catch (IllegalArgumentException ex) {
            return "throws.IllegalArgumentException";
        } catch (IllegalStateException ex) {
            return "throws.IllegalStateException";
        }
    }

    /** The container of the small program. */
    static int[] outs(ShrinkHouse x) {
        int[] row = new int[x.size(true, 4)];
        for (int i = 0; i < row.length; i++) {
            row[i] = x.out(i);
        }
        return row;
    }

    /** What the small program must be, told by the source of its container. */
    static void dueSmall(ShrinkHouse x, String what, String source) {
        due(what, Arrays.toString(outs(x)), Arrays.toString(bytes(source)));
    }

    /** A program of which one ENTRY is named, and from which the small one is made. */
    static ShrinkHouse shrunk(String source, int entry, int budget) {
        ShrinkHouse x = house(source);
        due("entry(" + entry + ")", x.entry(entry), 0);
        due("shrink(" + budget + ")", shrink(x, budget), Integer.toString(x.size(true, 4)));
        return x;
    }

    static int[] joined(int[]... rows) {
        List<Integer> all = new ArrayList<>();
        for (int[] row : rows) {
            for (int value : row) {
                all.add(value);
            }
        }
        int[] one = new int[all.size()];
        for (int i = 0; i < one.length; i++) {
            one[i] = all.get(i);
        }
        return one;
    }

    static int[] repeated(int many, int... row) {
        int[] all = new int[many * row.length];
        for (int i = 0; i < all.length; i++) {
            all[i] = row[i % row.length];
        }
        return all;
    }

    static String outputs(ShrinkHouse x) {
        StringBuilder text = new StringBuilder();
        int kept = Math.min(100, x.result(3));
        for (int i = 0; i < kept; i++) {
            text.append(i == 0 ? "" : " ").append(x.output(i));
        }
        return text.toString();
    }

    static String traces(ShrinkHouse x) {
        StringBuilder text = new StringBuilder();
        for (int k = 0; k < x.result(4); k++) {
            text.append(k == 0 ? "" : " ").append(x.trace(k));
        }
        return text.toString();
    }

    static String backs(ShrinkHouse x) {
        StringBuilder text = new StringBuilder();
        for (int k = 0; k < x.result(7); k++) {
            text.append(k == 0 ? "" : " ").append(x.back(k));
        }
        return text.toString();
    }

    static String origins(ShrinkHouse x, int method, int i) {
        StringBuilder text = new StringBuilder();
        for (int k = 0; x.origin(method, i, k) != NONE; k++) {
            text.append(k == 0 ? "" : " ").append(x.origin(method, i, k));
        }
        return text.toString();
    }
}
