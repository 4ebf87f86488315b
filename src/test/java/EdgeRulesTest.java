import java.util.Arrays;

/** Terms 3 (c): the edges at which each of the RULES fits, or just does not, and which of them comes first. */
public final class EdgeRulesTest {
    private static final String HEAD = "class 1 0; field 1 0 1; field 2 1 1; method 1 1 0 20;";

    public static void main(String[] args) {
        notReachedIsTheLeast();
        jumpsToTheNext();
        jumpsThatLeadOn();
        jumpsThatLeadRound();
        divisorsOfZero();
        zeroOrNot();
        lessOrNot();
        onesAndZeros();
        localsNowhereLoaded();
        loadAndStoreOfOneLocal();
        conditionsToTheNext();
        onlyNextToEachOther();
        theFirstMayBeJumpedTo();
        whatGoesIsJumpedTo();
        jumpsThatAreNotReached();
        theFirstPlace();
        untilNoneDoes();
        origins();
        Kit.finish();
    }

    /** The code becomes another one, by so many of each of the RULES told. */
    static ShrinkHouse due(String code, String made, int... rules) {
        ShrinkHouse x = Kit.shrunk(HEAD + code, 0, 0);
        boolean first = made.contains(" 0 0");
        boolean second = made.contains(" 0 1");
        String fields = (first ? "field 1 0 1;" : "") + (second ? first ? "field 2 1 1;" : "field 1 1 1;" : "");
        String body = first ? made : made.replace(" 0 1", " 0 0");
        Kit.dueSmall(x, code, "class 1 0;" + fields + "method 1 1 0 20;" + body);
        int[] counts = new int[13];
        for (int rule : rules) {
            counts[rule]++;
        }
        for (int r = 1; r <= 12; r++) {
            Kit.due(code + ": RULE " + r, x.made(10 + r), counts[r]);
        }
        Kit.due(code + ": all RULES", x.made(2), rules.length);
        return x;
    }

    static void stays(String code) {
        due(code, code);
    }

    private static int[] times(int rule, int many, int... more) {
        int[] rules = Arrays.copyOf(more, more.length + many);
        Arrays.fill(rules, more.length, rules.length, rule);
        return rules;
    }

    /** "of one place the least one": whatever else fits at a place that is not reached. */
    private static void notReachedIsTheLeast() {
        due("RETURN; INT 1; POP", "RETURN", 1, 1);
        due("RETURN; JUMP 2; TRAP", "RETURN", 1, 1);
        due("RETURN; INT 1; INT 2; ADD; POP", "RETURN", 1, 1, 1, 1);
        due("RETURN; STORE 3; LOAD 3; STORE 3; NULL; NONE 0", "RETURN", times(1, 5));
        due("RETURN;" + "TRAP;".repeat(119), "RETURN", times(1, 119));
        stays("TRAP");
    }

    private static void jumpsToTheNext() {
        due("JUMP a; a: RETURN", "RETURN", 2);
        stays("a: JUMP a");
        // not to the one behind the next, not to itself
        due("JUMP a; TRAP; a: RETURN", "RETURN", 1, 2);
        due("a: JUMP b; b: JUMP a", "a: JUMP a", 2);
    }

    /** "from JUMP to JUMP, at last to another one" */
    private static void jumpsThatLeadOn() {
        due("READ 0 0; ZERO a; RETURN; a: JUMP b; TRAP; b: TRAP", "READ 0 0; ZERO a; RETURN; a: TRAP", 3, 1, 1);
        // 115 JUMPS in a row, each to the one ahead of it, the first one to a TRAP
        StringBuilder text = new StringBuilder("READ 0 0; ZERO 119; RETURN; TRAP;");
        for (int i = 4; i < 120; i++) {
            text.append("JUMP ").append(i - 1).append(';');
        }
        due(text.toString(), "READ 0 0; ZERO 3; RETURN; TRAP", times(1, 116, 3));
        // backwards, to what the jump itself stands behind
        due("a: READ 0 0; OUT; READ 0 0; ZERO b; RETURN; b: JUMP a", "a: READ 0 0; OUT; READ 0 0; ZERO a; RETURN", 3, 1);
        // a jump to a ZERO, LESS or NONE is none to a JUMP
        stays("READ 0 0; READ 0 0; ZERO a; RETURN; a: ZERO b; RETURN; b: TRAP");
    }

    /** "(not if they lead round without end)" */
    private static void jumpsThatLeadRound() {
        stays("READ 0 0; ZERO a; RETURN; a: JUMP a");
        stays("READ 0 1; NONE a; RETURN; a: JUMP a");
        stays("READ 0 0; READ 0 0; LESS a; RETURN; a: JUMP a");
        // a round of three, entered from outside, and one JUMP that leads into it
        stays("READ 0 0; ZERO a; RETURN; b: JUMP a; c: JUMP b; a: JUMP c");
        stays("READ 0 0; ZERO d; RETURN; a: JUMP b; d: JUMP a; b: JUMP a");
        // a JUMP to itself goes for nothing
        due("JUMP b; TRAP; b: JUMP b", "b: JUMP b", 1, 2);
    }

    /** "or DIV, REM, if b is not 0" */
    private static void divisorsOfZero() {
        for (String op : new String[] {"DIV", "REM"}) {
            stays("INT 6; INT 0; " + op + "; OUT; RETURN");
            stays("INT 0; INT 0; " + op + "; OUT; RETURN");
            due("INT 0; INT 6; " + op + "; OUT; RETURN", "INT 0; OUT; RETURN", 4);
            due("INT 1; INT -1; " + op + "; OUT; RETURN", "INT " + (op.equals("DIV") ? -1 : 0) + "; OUT; RETURN", 4);
            due("INT -2147483648; INT -1; " + op + "; OUT; RETURN",
                    "INT " + (op.equals("DIV") ? "-2147483648" : "0") + "; OUT; RETURN", 4);
        }
        for (String op : new String[] {"ADD", "SUB", "MUL"}) {
            due("INT 6; INT 0; " + op + "; OUT; RETURN", "INT " + (op.equals("MUL") ? 0 : 6) + "; OUT; RETURN", 4);
        }
    }

    /** "JUMP, if it is 0; else both go" */
    private static void zeroOrNot() {
        due("INT 0; ZERO a; RETURN; a: TRAP", "TRAP", 6, 1, 2);
        for (int value : new int[] {1, -1, 256, Integer.MIN_VALUE, Integer.MAX_VALUE}) {
            due("INT " + value + "; ZERO a; RETURN; a: TRAP", "RETURN", 6, 1);
        }
        stays("READ 0 0; ZERO a; RETURN; a: TRAP");
        due("INT 0; INT 1; ZERO a; POP; RETURN; a: TRAP", "RETURN", 6, 5, 1);
    }

    /** "INT, INT, LESS: JUMP, or all go" */
    private static void lessOrNot() {
        int max = Integer.MAX_VALUE;
        int min = Integer.MIN_VALUE;
        int[][] less = {{0, 1}, {-1, 0}, {min, max}, {min, min + 1}, {max - 1, max}};
        int[][] not = {{0, 0}, {1, 0}, {0, -1}, {max, min}, {min, min}, {max, max}};
        for (int[] pair : less) {
            due("INT " + pair[0] + "; INT " + pair[1] + "; LESS a; RETURN; a: TRAP", "TRAP", 7, 1, 2);
        }
        for (int[] pair : not) {
            due("INT " + pair[0] + "; INT " + pair[1] + "; LESS a; RETURN; a: TRAP", "RETURN", 7, 1);
        }
        // LESS to the next one is no RULE's, unless both are known
        stays("READ 0 0; READ 0 0; LESS a; a: RETURN");
        due("INT 1; INT 2; LESS a; a: RETURN", "RETURN", 7, 2);
        due("INT 2; INT 1; LESS a; a: RETURN", "RETURN", 7);
        due("NULL; NONE a; a: RETURN", "RETURN", 8, 2);
    }

    /** "INT 0, and ADD or SUB; INT 1, and MUL or DIV: both go" */
    private static void onesAndZeros() {
        String[] ops = {"ADD", "SUB", "MUL", "DIV", "REM"};
        int[] goes = {0, 0, 1, 1, 99};
        for (int k = 0; k < 5; k++) {
            for (int value : new int[] {-1, 0, 1, 2, Integer.MIN_VALUE}) {
                String code = "READ 0 0; INT " + value + "; " + ops[k] + "; OUT; RETURN";
                if (value == goes[k]) {
                    due(code, "READ 0 0; OUT; RETURN", 9);
                } else {
                    stays(code);
                }
            }
        }
        // behind it, not ahead of it
        stays("INT 0; READ 0 0; ADD; OUT; RETURN");
        stays("INT 1; READ 0 0; MUL; OUT; RETURN");
    }

    /** "STORE of a local that is nowhere in the code LOADED: POP" */
    private static void localsNowhereLoaded() {
        for (int local : new int[] {0, 1, 19}) {
            due("READ 0 0; STORE " + local + "; RETURN", "READ 0 0; POP; RETURN", 10);
            stays("READ 0 0; STORE " + local + "; LOAD " + local + "; OUT; RETURN");
        }
        // another local that is loaded does not help it
        due("READ 0 0; STORE 1; READ 0 0; STORE 2; LOAD 2; OUT; RETURN", "READ 0 0; POP; READ 0 0; STORE 2; LOAD 2; OUT;"
                + "RETURN", 10);
        // "nowhere": one LOAD, wherever it is, is enough for all its STORES
        stays("READ 0 0; STORE 1; READ 0 0; STORE 1; READ 0 0; STORE 1; LOAD 1; OUT; RETURN");
        stays("READ 0 0; STORE 0; a: LOAD 0; OUT; READ 0 0; STORE 0; JUMP a");
        // when that LOAD goes, they go
        due("READ 0 0; STORE 1; LOAD 1; POP; RETURN", "READ 0 0; POP; RETURN", 5, 10);
        due("READ 0 0; STORE 1; LOAD 1; STORE 1; RETURN", "READ 0 0; POP; RETURN", 11, 10);
        due("READ 0 0; STORE 1; RETURN; LOAD 1", "READ 0 0; POP; RETURN", 1, 10);
        // the first instruction of all may be that LOAD
        ShrinkHouse y = Kit.shrunk("class 1 0; field 1 0 1; method 1 1 0 0; INT 1; CALL 0 1; RETURN; method 2 1 0 1 0; LOAD 0;"
                + "OUT; READ 0 0; STORE 0; RETURN", 0, 0);
        Kit.due("it is loaded", y.made(2), 0);
        // a PARAM, too
        ShrinkHouse x = Kit.shrunk("class 1 0; field 1 0 1; method 1 1 0 0; INT 1; CALL 0 1; RETURN; method 2 1 0 1 0;"
                + "READ 0 0; STORE 0; RETURN", 0, 0);
        Kit.due("of a PARAM", x.made(20), 1);
    }

    private static void loadAndStoreOfOneLocal() {
        String both = "READ 0 0; STORE %d; READ 0 0; STORE %d; LOAD %d; STORE %d; LOAD 0; OUT; LOAD 19; OUT; RETURN";
        String gone = "READ 0 0; STORE %d; READ 0 0; STORE %d; LOAD 0; OUT; LOAD 19; OUT; RETURN";
        due(String.format(both, 0, 19, 0, 0), String.format(gone, 0, 19), 11);
        due(String.format(both, 0, 19, 19, 19), String.format(gone, 0, 19), 11);
        stays(String.format(both, 0, 19, 0, 19));
        stays(String.format(both, 0, 19, 19, 0));
        // STORE and LOAD of one are no RULE's
        stays("READ 0 0; STORE 0; LOAD 0; OUT; RETURN");
    }

    /** "ZERO or NONE to the next one: POP" */
    private static void conditionsToTheNext() {
        due("READ 0 0; ZERO a; a: RETURN", "READ 0 0; POP; RETURN", 12);
        due("READ 0 1; NONE a; a: RETURN", "READ 0 1; POP; RETURN", 12);
        stays("READ 0 0; ZERO a; INT 1; OUT; a: RETURN");
        stays("READ 0 1; NONE a; INT 1; OUT; a: RETURN");
        // to the next one, which is a JUMP: where it leads comes first; round without end it does not lead
        due("READ 0 0; ZERO a; a: JUMP b; TRAP; b: RETURN", "READ 0 0; POP; RETURN", 3, 1, 2, 12);
        due("READ 0 0; ZERO a; a: JUMP a", "READ 0 0; POP; a: JUMP a", 12);
    }

    /** What stands between them keeps them apart. */
    private static void onlyNextToEachOther() {
        stays("INT 1; READ 0 0; INT 2; ADD; OUT; OUT; RETURN");
        stays("READ 0 0; DUP; OUT; POP; RETURN");
        stays("READ 0 0; READ 0 0; POP; POP; RETURN");
        stays("NEW 0; POP; RETURN");
        stays("NULL; IS 0; POP; RETURN");
        stays("NULL; CAST 0; POP; RETURN");
    }

    /** "None of the instructions that it takes together, but the first, may be one to which a jump .. goes." */
    private static void theFirstMayBeJumpedTo() {
        String loop = "READ 0 0; ZERO %s; RETURN";
        due("a: INT 1; INT 2; ADD; OUT;" + String.format(loop, "a"), "a: INT 3; OUT;" + String.format(loop, "a"), 4);
        due("a: INT 1; POP; READ 0 0; OUT;" + String.format(loop, "a"), "a: READ 0 0; OUT;" + String.format(loop, "a"), 5);
        due("READ 0 0; a: INT 0; ADD; READ 0 0; ZERO a; OUT; RETURN", "READ 0 0; a: READ 0 0; ZERO a; OUT; RETURN", 9);
        due("a: INT 1; ZERO b; READ 0 0; OUT;" + String.format(loop, "a") + "; b: TRAP",
                "a: READ 0 0; OUT;" + String.format(loop, "a"), 6, 1);
        due("a: INT 2; INT 1; LESS b; READ 0 0; OUT;" + String.format(loop, "a") + "; b: TRAP",
                "a: READ 0 0; OUT;" + String.format(loop, "a"), 7, 1);
        due("READ 0 0; STORE 0; a: LOAD 0; STORE 0; LOAD 0; OUT; READ 0 0; ZERO a; RETURN",
                "READ 0 0; STORE 0; a: LOAD 0; OUT; READ 0 0; ZERO a; RETURN", 11);
        due("READ 0 0; a: STORE 0; READ 0 0; READ 0 0; ZERO a; OUT; RETURN",
                "READ 0 0; a: POP; READ 0 0; READ 0 0; ZERO a; OUT; RETURN", 10);
        // the second and the third of three
        stays("INT 1; a: INT 2; ADD; READ 0 0; ZERO a; OUT; RETURN");
        stays("INT 1; INT 2; a: ADD; READ 0 0; READ 0 0; ZERO a; POP; OUT; RETURN");
        stays("INT 1; INT 2; a: LESS b; READ 0 0; READ 0 0; JUMP a; b: TRAP");
        stays("INT 1; a: INT 2; LESS b; READ 0 0; JUMP a; b: TRAP");
        stays("NULL; a: NONE b; READ 0 1; JUMP a; b: TRAP");
        stays("INT 0; a: ZERO b; READ 0 0; JUMP a; b: TRAP");
        stays("READ 0 0; DUP; a: POP; READ 0 0; ZERO b; READ 0 0; JUMP a; b: OUT; RETURN");
        stays("NULL; a: POP; READ 0 1; READ 0 0; ZERO a; RETURN");
        stays("READ 0 0; STORE 1; LOAD 1; a: POP; READ 0 0; LOAD 1; ZERO a; RETURN");
    }

    /** "Jumps to what goes go to what stands behind it." */
    private static void whatGoesIsJumpedTo() {
        due("READ 0 0; ZERO a; READ 0 0; OUT; a: INT 1; POP; INT 2; POP; RETURN", "READ 0 0; ZERO a; READ 0 0; OUT; a: RETURN",
                5, 5);
        due("READ 0 0; ZERO a; READ 0 0; OUT; a: JUMP b; b: RETURN", "READ 0 0; ZERO a; READ 0 0; OUT; a: RETURN", 3, 2);
        // ahead of it, over it, and from behind it
        due("a: READ 0 0; ZERO c; b: NULL; POP; READ 0 0; ZERO a; READ 0 0; ZERO b; c: RETURN",
                "a: READ 0 0; ZERO c; b: READ 0 0; ZERO a; READ 0 0; ZERO b; c: RETURN", 5);
        // three at once
        due("READ 0 0; ZERO a; READ 0 0; OUT; a: INT 2; INT 1; LESS b; READ 0 0; OUT; RETURN; b: TRAP",
                "READ 0 0; ZERO a; READ 0 0; OUT; a: READ 0 0; OUT; RETURN", 7, 1);
    }

    /** "(of the code as it is then, reached or not)" */
    private static void jumpsThatAreNotReached() {
        // by the time it goes, the first place is tried again
        due("INT 5; a: POP; RETURN; JUMP a", "RETURN", 1, 5);
        due("INT 1; INT 2; a: ADD; OUT; RETURN; NULL; JUMP a", "INT 3; OUT; RETURN", 1, 1, 4);
        // places behind it are tried before the place that it keeps apart
        due("INT 5; a: POP; INT 6; POP; RETURN; JUMP a", "RETURN", 5, 1, 5);
    }

    /** "at the first place at which one fits": not where the least one fits */
    private static void theFirstPlace() {
        // RULE 4 at the first place, not RULE 9 at the second one
        due("INT 7; INT 0; ADD; OUT; RETURN", "INT 7; OUT; RETURN", 4);
        due("INT 7; INT 1; DIV; OUT; RETURN", "INT 7; OUT; RETURN", 4);
        // RULE 10 at 1, ahead of RULE 1 that takes its way to be jumped to; RULE 5 can come then
        due("INT 3; STORE 2; RETURN; TRAP", "RETURN", 10, 5, 1);
        // RULE 4 at 1 makes what RULE 4 takes at 0
        due("INT 1; INT 2; INT 3; ADD; ADD; OUT; RETURN", "INT 6; OUT; RETURN", 4, 4);
        // RULE 12 is at 1; were RULE 1 done ahead of it, the TRAP at 4 would be gone all the same
        due("READ 0 0; ZERO a; a: RETURN; TRAP; TRAP", "READ 0 0; POP; RETURN", 12, 1, 1);
    }

    /** "until none does": of a program that was made so no RULE is done any more. */
    private static void untilNoneDoes() {
        StringBuilder sum = new StringBuilder("INT 1;");
        for (int n = 0; n < 59; n++) {
            sum.append("INT 1; ADD;");
        }
        due(sum + "RETURN", "INT 60; RETURN", times(4, 59));
        String[] codes = {sum + "RETURN", "JUMP a; b: INT 0; ZERO c; a: JUMP b; c: INT 1; STORE 1; RETURN",
            "INT 1; INT 2; INT 3; POP; POP; POP; RETURN", "a: READ 0 0; ZERO b; JUMP a; b: JUMP a"};
        for (String code : codes) {
            ShrinkHouse x = Kit.shrunk(HEAD + code, 0, 0);
            int bytes = x.size(true, 4);
            Kit.due("some were done", x.made(2) > 0, true);
            Kit.due("again", x.again(), true);
            Kit.due("as many bytes", Kit.shrink(x, 0), Integer.toString(bytes));
            Kit.due("none is done", x.made(2), 0);
        }
    }

    /** "of what a RULE makes that of the last one that it takes" */
    private static void origins() {
        ShrinkHouse x = due("INT 1; INT 2; ADD; OUT; READ 0 0; STORE 5; READ 0 0; ZERO a; a: RETURN",
                "INT 3; OUT; READ 0 0; POP; READ 0 0; POP; RETURN", 4, 10, 12);
        String[] due = {"2", "3", "4", "5", "6", "7", "8"};
        for (int i = 0; i < due.length; i++) {
            Kit.due("origin of " + i, Kit.origins(x, 0, i), due[i]);
        }
        // the first ones are the LEAF's, the last one is not; all are the LEAF's
        x = Kit.shrunk("class 1 0; method 1 1 0 0; CALL 0 1; INT 4; ADD; OUT; CALL 0 2; OUT; RETURN; method 2 1 1 0; INT 3;"
                + "RETURN; method 3 1 1 0; INT 5; INT 6; ADD; RETURN", 0, 12);
        Kit.due("INT 7", Kit.origins(x, 0, 0), "2");
        Kit.due("OUT", Kit.origins(x, 0, 1), "3");
        Kit.due("INT 11", Kit.origins(x, 0, 2), "2002 4");
        // a POP that was the STORE of a PARAM has the CALL's alone
        x = Kit.shrunk("class 1 0; field 1 0 1; method 1 1 0 0; READ 0 0; CALL 0 1; RETURN; method 2 1 0 1 0; RETURN", 0, 12);
        Kit.due("POP", Kit.origins(x, 0, 1), "1");
    }
}
