/**
 * Terms 1, the bytes of a CONTAINER and FAULT 1: of each byte the least and the greatest one that can be there, and the
 * first ones on both sides that can't.
 */
public final class EdgeContainerTest {
    private static final int[] NOTHING = {};
    /** A CLASS without a SUPER, FIELDS and METHODS. */
    private static final int[] EMPTY = {1, 0, 0, 0};
    private static final int[] ONE_CLASS = {83, 72, 1, 1, 0};
    /** Up to where the only METHOD of the only CLASS begins. */
    private static final int[] ONE_METHOD = {83, 72, 1, 1, 0, 0, 1};
    private static final int TRAP = 26;

    public static void main(String[] args) {
        theFirstTwo();
        howManyClasses();
        names();
        superIsAheadOfIt();
        howManyFields();
        typesOfFields();
        staticIsOneOrZero();
        howManyMethods();
        results();
        howManyParams();
        typesOfParams();
        locals();
        howManyInstructions();
        ops();
        toldLocals();
        toldInstructions();
        toldClasses();
        theFirstOfManyIsTold();
        Kit.finish();
    }

    /** Whether that byte can be there, between what is ahead of it and what is behind. */
    private static void due(String what, int[] ahead, int value, int[] behind, boolean can) {
        int[] bytes = Kit.joined(ahead, new int[] {value}, behind);
        Kit.dueFault(what + " " + value, bytes, can ? 0 : 1, can ? Kit.NONE : ahead.length, Kit.NONE, Kit.NONE);
    }

    private static int[] bytes(int... values) {
        return values;
    }

    private static int[] emptyClasses(int many) {
        return Kit.repeated(many, EMPTY);
    }

    /** "83, 72" */
    private static void theFirstTwo() {
        int[] rest = Kit.joined(bytes(1), EMPTY);
        for (int value : bytes(0, 72, 82, 83, 84, 255)) {
            due("the first", NOTHING, value, Kit.joined(bytes(72), rest), value == 83);
        }
        for (int value : bytes(0, 71, 72, 73, 83, 255)) {
            due("the second", bytes(83), value, rest, value == 72);
        }
    }

    /** "how many CLASSES (1 to 10 ..)" */
    private static void howManyClasses() {
        for (int many : bytes(0, 1, 2, 9, 10, 11, 12, 128, 255)) {
            due("CLASSES", bytes(83, 72), many, emptyClasses(many), many >= 1 && many <= 10);
        }
    }

    /** "its NAME (1 to 255)", of CLASSES, FIELDS and METHODS */
    private static void names() {
        for (int name : bytes(0, 1, 127, 128, 254, 255)) {
            boolean can = name != 0;
            due("NAME of a CLASS", bytes(83, 72, 1), name, bytes(0, 0, 0), can);
            due("NAME of the tenth CLASS", Kit.joined(bytes(83, 72, 10), emptyClasses(9)), name, bytes(0, 0, 0), can);
            due("NAME of a FIELD", Kit.joined(ONE_CLASS, bytes(1)), name, bytes(0, 0, 0), can);
            due("NAME of a METHOD", ONE_METHOD, name, bytes(1, 0, 0, 0, 1, TRAP), can);
        }
    }

    /** "SUPER (0 none, else the number of a CLASS ahead of it, 1 more)" */
    private static void superIsAheadOfIt() {
        for (int c = 0; c < 10; c++) {
            int[] ahead = Kit.joined(bytes(83, 72, 10), emptyClasses(c), bytes(1));
            int[] behind = Kit.joined(bytes(0, 0), emptyClasses(9 - c));
            for (int value : bytes(0, 1, c, c + 1, c + 2, 10, 11, 255)) {
                due("SUPER of CLASS " + c, ahead, value, behind, value <= c);
            }
        }
    }

    private static int[] fields(int many) {
        int[] all = new int[3 * many];
        for (int k = 0; k < many; k++) {
            all[3 * k] = k + 1;
        }
        return all;
    }

    /** "how many FIELDS (0 to 6)" */
    private static void howManyFields() {
        for (int many : bytes(0, 1, 5, 6, 7, 8, 100)) {
            due("FIELDS", ONE_CLASS, many, Kit.joined(fields(many), bytes(0)), many <= 6);
        }
    }

    /** "TYPE (0 INT, else the number of a CLASS, 1 more ..)": also of a CLASS behind it, or of its own */
    private static void typesOfFields() {
        for (int classes : bytes(1, 2, 10)) {
            int[] ahead = bytes(83, 72, classes, 1, 0, 1, 1);
            int[] behind = Kit.joined(bytes(0, 0), emptyClasses(classes - 1));
            for (int type : bytes(0, 1, classes, classes + 1, 255)) {
                due("TYPE of a FIELD, of " + classes + " CLASSES", ahead, type, behind, type <= classes);
            }
            int[] aheadOfLast = Kit.joined(bytes(83, 72, classes), emptyClasses(classes - 1), bytes(1, 0, 1, 1));
            for (int type : bytes(0, 1, classes, classes + 1, 255)) {
                due("TYPE of the last one's FIELD", aheadOfLast, type, bytes(0, 0), type <= classes);
            }
        }
    }

    /** "STATIC (1, else 0)", of FIELDS and METHODS */
    private static void staticIsOneOrZero() {
        for (int value : bytes(0, 1, 2, 3, 255)) {
            due("STATIC of a FIELD", Kit.joined(ONE_CLASS, bytes(1, 1, 0)), value, bytes(0), value <= 1);
            due("STATIC of a METHOD", Kit.joined(ONE_METHOD, bytes(1)), value, bytes(0, 0, 1, 1, TRAP), value <= 1);
        }
    }

    private static int[] methods(int many) {
        int[] all = new int[7 * many];
        for (int k = 0; k < many; k++) {
            System.arraycopy(bytes(k + 1, 1, 0, 0, 0, 1, TRAP), 0, all, 7 * k, 7);
        }
        return all;
    }

    /** "how many METHODS (0 to 8)" */
    private static void howManyMethods() {
        for (int many : bytes(0, 1, 7, 8, 9, 10, 100)) {
            due("METHODS", Kit.joined(ONE_CLASS, bytes(0)), many, methods(many), many <= 8);
        }
    }

    /** "RESULT (0 none, 1 INT, else the number of a CLASS, 2 more)" */
    private static void results() {
        for (int classes : bytes(1, 2, 10)) {
            int[] ahead = bytes(83, 72, classes, 1, 0, 0, 1, 1, 1);
            int[] behind = Kit.joined(bytes(0, 0, 1, TRAP), emptyClasses(classes - 1));
            for (int result : bytes(0, 1, 2, classes + 1, classes + 2, 255)) {
                due("RESULT, of " + classes + " CLASSES", ahead, result, behind, result <= classes + 1);
            }
        }
    }

    /** "how many PARAMS (0 to 3)" */
    private static void howManyParams() {
        for (int many : bytes(0, 1, 2, 3, 4, 5, 20)) {
            int[] behind = Kit.joined(new int[many], bytes(many, 1, TRAP));
            due("PARAMS", Kit.joined(ONE_METHOD, bytes(1, 1, 0)), many, behind, many <= 3);
        }
    }

    /** "their TYPES": each of three */
    private static void typesOfParams() {
        for (int classes : bytes(1, 10)) {
            for (int k = 0; k < 3; k++) {
                int[] ahead = Kit.joined(bytes(83, 72, classes, 1, 0, 0, 1, 1, 1, 0, 3), new int[k]);
                int[] behind = Kit.joined(new int[2 - k], bytes(3, 1, TRAP), emptyClasses(classes - 1));
                for (int type : bytes(0, 1, classes, classes + 1, 255)) {
                    due("TYPE of PARAM " + k + ", of " + classes + " CLASSES", ahead, type, behind, type <= classes);
                }
            }
        }
    }

    /** "how many LOCALS (at least the PARAMS, and one more if it is not STATIC; at most 20)" */
    private static void locals() {
        for (int isStatic = 0; isStatic <= 1; isStatic++) {
            for (int params = 0; params <= 3; params++) {
                int[] ahead = Kit.joined(ONE_METHOD, bytes(1, isStatic, 0, params), new int[params]);
                int least = params + 1 - isStatic;
                for (int many : bytes(0, 1, 2, 3, 4, 5, 19, 20, 21, 255)) {
                    due("LOCALS, STATIC " + isStatic + ", PARAMS " + params, ahead, many, bytes(1, TRAP),
                            many >= least && many <= 20);
                }
            }
        }
    }

    /** "how many INSTRUCTIONS (1 to 120)" */
    private static void howManyInstructions() {
        int[] ahead = Kit.joined(ONE_METHOD, bytes(1, 1, 0, 0, 0));
        for (int many : bytes(0, 1, 2, 119, 120, 121, 122, 255)) {
            due("INSTRUCTIONS", ahead, many, Kit.repeated(many, TRAP), many >= 1 && many <= 120);
        }
    }

    /** What can be told with each OP in a METHOD whose CLASS has FIELDS 0 and 1 (STATIC), METHODS 0 (STATIC) and 1. */
    private static int[] toldWith(int op) {
        switch (op) {
            case 0:
                return bytes(255, 255, 255, 255);
            case 2, 3, 11, 12, 13, 14, 15, 24, 25:
                return bytes(0);
            case 16, 17, 20:
                return bytes(0, 0);
            case 18, 19, 21:
                return bytes(0, 1);
            default:
                return NOTHING;
        }
    }

    /** All 27 OPS, and none behind them; each tells as many bytes as the document says. */
    private static void ops() {
        int[] fields = bytes(2, 1, 0, 0, 2, 0, 1);
        int[] second = bytes(2, 0, 0, 0, 1, 1, TRAP);
        for (int op = 0; op < 256; op++) {
            int[] ahead = Kit.joined(ONE_CLASS, fields, bytes(2, 1, 1, 0, 0, 1, 3, TRAP));
            int[] behind = Kit.joined(toldWith(op), bytes(TRAP), second);
            due("OP", ahead, op, behind, op <= 26);
        }
    }

    private static int[] staticMethod(int locals, int instructions) {
        return Kit.joined(ONE_METHOD, bytes(1, 1, 0, 0, locals, instructions));
    }

    /** A told local is one that the METHOD has. */
    private static void toldLocals() {
        for (int locals : bytes(0, 1, 2, 20)) {
            for (int op = 2; op <= 3; op++) {
                for (int local : bytes(0, 1, 2, 19, 20, 255)) {
                    due("a local of " + locals, Kit.joined(staticMethod(locals, 2), bytes(TRAP, op)), local, NOTHING,
                            local < locals);
                }
            }
        }
    }

    /** "JUMPS, with an instruction of the METHOD" */
    private static void toldInstructions() {
        due("a JUMP alone, to", Kit.joined(staticMethod(0, 1), bytes(11)), 0, NOTHING, true);
        due("a JUMP alone, to", Kit.joined(staticMethod(0, 1), bytes(11)), 1, NOTHING, false);
        for (int op = 11; op <= 14; op++) {
            for (int many : bytes(2, 3, 119, 120)) {
                int[] ahead = Kit.joined(staticMethod(0, many), Kit.repeated(many - 1, TRAP), bytes(op));
                for (int to : bytes(0, 1, many - 1, many, many + 1, 255)) {
                    due("OP " + op + ", one of " + many + ", to", ahead, to, NOTHING, to < many);
                }
            }
        }
    }

    /** A told CLASS is one that there is. */
    private static void toldClasses() {
        int[] withMembers = bytes(1, 0, 2, 1, 0, 0, 2, 0, 1, 1, 9, 0, 0, 0, 1, 1, TRAP);
        for (int classes : bytes(1, 2, 10)) {
            int[] head = Kit.joined(bytes(83, 72, classes), Kit.repeated(classes - 1, withMembers),
                    bytes(1, 0, 2, 1, 0, 0, 2, 0, 1, 2, 9, 0, 0, 0, 1, 1, TRAP));
            for (int op : bytes(15, 16, 17, 18, 19, 20, 21, 24, 25)) {
                int[] ahead = Kit.joined(head, bytes(10, 1, 0, 0, 0, 2, TRAP, op));
                int[] number = op == 18 || op == 19 ? bytes(1) : op > 15 && op < 22 ? bytes(0) : NOTHING;
                for (int c : bytes(0, classes - 1, classes, classes + 1, 255)) {
                    due("OP " + op + ", of " + classes + " CLASSES", ahead, c, number, c < classes);
                }
            }
        }
    }

    /** "the first byte that can't be there": what stands behind it is not looked at. */
    private static void theFirstOfManyIsTold() {
        due("the first of all", NOTHING, 0, bytes(0, 0, 0), false);
        due("SUPER, and FIELDS", bytes(83, 72, 1, 1), 9, bytes(9, 9), false);
        due("an OP, and what is behind all", Kit.joined(staticMethod(0, 2), bytes(TRAP)), 27, bytes(27, 0, 0), false);
    }
}
