public final class Promise08TypeTest {
    private static final int UNSET = 0;
    private static final int INT = 1;
    private static final int NULL = 2;
    private static final int ANY = 3;
    private static final int CLASS = 4;

    /** CLASSES 1 and 2 are below 0, 3 is below 2, 4 is alone. */
    private static final String CLASSES = """
            class 1 0
            field 1 0 1
            field 2 3 1
            class 2 1
            class 3 1
            class 4 3
            class 5 0
            """;

    public static void main(String[] args) {
        straightCode();
        firstLocals();
        whatMeets();
        rounds();
        notThere();
        afterOtherCalls();
        Kit.finish();
    }

    private static void due(ShrinkHouse x, int m, int i, String state) {
        // "INT INT | UNSET": the stack from below, then the LOCALS
        String[] halves = state.split("\\|", -1);
        String[] stack = halves[0].trim().isEmpty() ? new String[0] : halves[0].trim().split(" +");
        String[] locals = halves[1].trim().isEmpty() ? new String[0] : halves[1].trim().split(" +");
        Kit.due("type(" + m + ", " + i + ", 0)", x.type(m, i, 0), 1);
        Kit.due("type(" + m + ", " + i + ", 1)", x.type(m, i, 1), stack.length);
        for (int k = 0; k < 12; k++) {
            Kit.due("type(" + m + ", " + i + ", 30 + " + k + ")", x.type(m, i, 30 + k),
                    k < stack.length ? number(stack[k]) : Kit.NONE);
        }
        for (int l = 0; l < 20; l++) {
            Kit.due("type(" + m + ", " + i + ", 10 + " + l + ")", x.type(m, i, 10 + l),
                    l < locals.length ? number(locals[l]) : Kit.NONE);
        }
    }

    private static int number(String type) {
        switch (type) {
            case "UNSET":
                return UNSET;
            case "INT":
                return INT;
            case "NULL":
                return NULL;
            case "ANY":
                return ANY;
            default:
                return CLASS + Integer.parseInt(type);
        }
    }

    private static void straightCode() {
        ShrinkHouse x = Kit.house(CLASSES + """
                method 1 1 5 2
                NULL
                READ 0 0
                DUP
                STORE 1
                NEW 3
                CAST 2
                DUP
                IS 1
                READ 0 1
                STORE 0
                POP
                POP
                NULL
                RETURN
                INT 1
                """);
        due(x, 0, 0, "| UNSET UNSET");
        due(x, 0, 1, "NULL | UNSET UNSET");
        due(x, 0, 3, "NULL INT INT | UNSET UNSET");
        due(x, 0, 4, "NULL INT | UNSET INT");
        due(x, 0, 5, "NULL INT 3 | UNSET INT");
        due(x, 0, 6, "NULL INT 2 | UNSET INT");
        due(x, 0, 7, "NULL INT 2 2 | UNSET INT");
        due(x, 0, 9, "NULL INT 2 INT 2 | UNSET INT");
        due(x, 0, 10, "NULL INT 2 INT | 2 INT");
        due(x, 0, 13, "NULL INT NULL | 2 INT");
    }

    private static void firstLocals() {
        ShrinkHouse x = Kit.house(CLASSES + """
                method 1 0 0 6 0 2 5
                RETURN
                method 2 1 0 4 4 0
                RETURN
                """);
        due(x, 0, 0, "| 4 INT 1 4 UNSET UNSET");
        due(x, 1, 0, "| 3 INT UNSET UNSET");
    }

    private static String twoWays(String one, String other) {
        return CLASSES + "method 1 1 0 1; READ 0 0; ZERO a; " + one + "; STORE 0; JUMP b; a: " + other
                + "; STORE 0; NULL; POP; b: RETURN";
    }

    private static void dueMeet(String one, String other, String met) {
        // b is the ninth instruction, whichever of the two comes first
        due(Kit.house(twoWays(one, other)), 0, 9, "| " + met);
        due(Kit.house(twoWays(other, one)), 0, 9, "| " + met);
    }

    private static void whatMeets() {
        dueMeet("INT 1", "INT 2", "INT");
        dueMeet("INT 1", "NULL", "UNSET");
        dueMeet("INT 1", "NEW 0", "UNSET");
        dueMeet("NULL", "NULL", "NULL");
        dueMeet("NULL", "NEW 3", "3");
        dueMeet("NEW 3", "NEW 3", "3");
        dueMeet("NEW 3", "NEW 2", "2");
        dueMeet("NEW 3", "NEW 1", "0");
        dueMeet("NEW 0", "NEW 3", "0");
        dueMeet("NEW 4", "NEW 3", "ANY");
        String any = CLASSES + "method 1 1 0 2; READ 0 0; ZERO a; NEW 4; JUMP b; a: NEW 1; b: READ 0 0; ZERO c;"
                + "JUMP d; c: POP; %s; d: RETURN";
        for (String other : new String[] {"NULL", "NEW 2", "NEW 4"}) {
            ShrinkHouse x = Kit.house(String.format(any, other));
            due(x, 0, 5, "ANY | UNSET UNSET");
            due(x, 0, 10, "ANY | UNSET UNSET");
        }
        // a local that is set on one way alone
        due(Kit.house(CLASSES + "method 1 1 0 1; READ 0 0; ZERO a; INT 1; STORE 0; a: RETURN"), 0, 4, "| UNSET");
    }

    /** A jump back changes states of what was looked at before. */
    private static void rounds() {
        ShrinkHouse x = Kit.house(CLASSES + """
                method 1 1 0 2
                NEW 3
                STORE 0
                INT 1
                STORE 1
                a: LOAD 0
                POP
                READ 0 0
                ZERO b
                NEW 1
                STORE 0
                JUMP a
                b: NULL
                STORE 1
                JUMP a
                RETURN
                """);
        due(x, 0, 4, "| 0 UNSET");
        due(x, 0, 5, "0 | 0 UNSET");
        due(x, 0, 11, "| 0 UNSET");
        due(x, 0, 13, "| 0 NULL");
        Kit.due("not reached", x.type(0, 14, 0), 0);
    }

    private static void notThere() {
        ShrinkHouse x = Kit.house(CLASSES + "method 1 1 0 1; JUMP a; INT 1; a: RETURN");
        Kit.due("not reached", x.type(0, 1, 0), 0);
        int[] whats = {1, 10, 30, 2, 9, 29, -1};
        for (int what : whats) {
            Kit.due("not reached, what " + what, x.type(0, 1, what), Kit.NONE);
        }
        int[] others = {-1, 2, 9, 11, 29, 30, 31, 40, 100, Integer.MAX_VALUE, Integer.MIN_VALUE};
        for (int what : others) {
            Kit.due("what " + what, x.type(0, 0, what), Kit.NONE);
        }
        Kit.due("no such instruction", x.type(0, 3, 0), Kit.NONE);
        Kit.due("no such instruction", x.type(0, -1, 0), Kit.NONE);
        Kit.due("no such method", x.type(1, 0, 0), Kit.NONE);
        Kit.due("no such method", x.type(-1, 0, 0), Kit.NONE);
    }

    private static void afterOtherCalls() {
        ShrinkHouse x = Kit.house(CLASSES + "method 1 1 0 1; NULL; STORE 0; RETURN; method 2 1 0 1; INT 1; STORE 0; RETURN");
        due(x, 0, 2, "| NULL");
        due(x, 1, 2, "| INT");
        due(x, 0, 2, "| NULL");
        Kit.due("a fault", Kit.read(x, CLASSES + "method 1 1 0 1; NEW 0; STORE 0; INT 1; POP; POP; RETURN"), 3);
        due(x, 0, 2, "| NULL");
        Kit.due("a program", Kit.read(x, CLASSES + "method 1 1 0 1; NEW 0; STORE 0; RETURN"), 0);
        due(x, 0, 2, "| 0");
    }
}
