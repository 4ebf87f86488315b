/** Promises 10, 13 and 14: each of the RULES, where it fits and where it does not. */
public final class RulesTest {
    private static final String HEAD = "class 1 0; field 1 0 1; field 2 1 1; method 1 1 0 3;";

    public static void main(String[] args) {
        notReached();
        jumpToTheNext();
        jumpToAJump();
        numbers();
        popped();
        zero();
        less();
        none();
        nothingAdded();
        storedInVain();
        loadedAndStored();
        condition();
        jumpsBetween();
        order();
        theLongestCode();
        Kit.finish();
    }

    /** The code becomes another one, by so many of each of the RULES told. */
    private static ShrinkHouse due(String code, String made, int... rules) {
        ShrinkHouse x = Kit.house(HEAD + code);
        x.entry(0);
        Kit.shrink(x, 0);
        StringBuilder head = new StringBuilder("class 1 0;");
        boolean first = made.contains(" 0 0");
        boolean second = made.contains(" 0 1");
        String body = made;
        if (first) {
            head.append("field 1 0 1;");
        }
        if (second) {
            head.append(first ? "field 2 1 1;" : "field 1 1 1;");
            body = first ? made : made.replace(" 0 1", " 0 0");
        }
        Kit.dueSmall(x, code, head + "method 1 1 0 3;" + body);
        int[] counts = new int[13];
        for (int rule : rules) {
            counts[rule]++;
        }
        for (int r = 1; r <= 12; r++) {
            Kit.due(code + ": RULE " + r, x.made(10 + r), counts[r]);
        }
        Kit.due(code + ": all RULES", x.made(2), rules.length);
        return x;
    }

    private static ShrinkHouse stays(String code) {
        return due(code, code);
    }

    private static void notReached() {
        due("RETURN; TRAP", "RETURN", 1);
        due("TRAP; RETURN; POP", "TRAP", 1, 1);
        due("RETURN; JUMP a; a: TRAP", "RETURN", 1, 1);
        due("RETURN; a: INT 1; ZERO a; JUMP a", "RETURN", 1, 1, 1);
        due("READ 0 0; ZERO a; RETURN; NULL; POP; a: TRAP", "READ 0 0; ZERO a; RETURN; a: TRAP", 1, 1);
    }

    private static void jumpToTheNext() {
        due("JUMP a; a: RETURN", "RETURN", 2);
        due("JUMP a; a: JUMP b; b: JUMP c; c: RETURN", "RETURN", 2, 2, 2);
        // a jump to what goes goes to what stands behind it
        due("a: JUMP b; b: READ 0 0; ZERO a; RETURN", "a: READ 0 0; ZERO a; RETURN", 2);
    }

    private static void jumpToAJump() {
        due("READ 0 0; ZERO a; INT 1; OUT; a: JUMP b; INT 2; OUT; b: RETURN",
                "READ 0 0; ZERO a; INT 1; OUT; a: RETURN", 3, 1, 1, 2);
        // over two JUMPS at once, and of each sort
        String tail = "RETURN; a: JUMP b; c: TRAP; b: JUMP c";
        due("READ 0 0; ZERO a; " + tail, "READ 0 0; ZERO c; RETURN; c: TRAP", 3, 1, 1);
        due("READ 0 1; NONE a; " + tail, "READ 0 1; NONE c; RETURN; c: TRAP", 3, 1, 1);
        due("READ 0 0; READ 0 0; LESS a; " + tail, "READ 0 0; READ 0 0; LESS c; RETURN; c: TRAP", 3, 1, 1);
        due("READ 0 0; ZERO d; JUMP a; d: " + tail, "READ 0 0; ZERO d; JUMP c; d: RETURN; c: TRAP", 3, 1, 1);
        // round without end
        stays("READ 0 0; ZERO a; RETURN; a: JUMP a");
        due("READ 0 0; ZERO a; RETURN; b: INT 1; OUT; a: JUMP b", "READ 0 0; ZERO b; RETURN; b: INT 1; OUT; JUMP b", 3);
        stays("READ 0 0; ZERO a; b: JUMP c; a: JUMP d; c: JUMP a; d: JUMP b");
    }

    private static void numbers() {
        due("INT 6; INT 4; ADD; OUT; RETURN", "INT 10; OUT; RETURN", 4);
        due("INT 6; INT 4; SUB; OUT; RETURN", "INT 2; OUT; RETURN", 4);
        due("INT 6; INT 4; MUL; OUT; RETURN", "INT 24; OUT; RETURN", 4);
        due("INT -7; INT 2; DIV; OUT; RETURN", "INT -3; OUT; RETURN", 4);
        due("INT -7; INT 2; REM; OUT; RETURN", "INT -1; OUT; RETURN", 4);
        due("INT 2147483647; INT 1; ADD; OUT; RETURN", "INT -2147483648; OUT; RETURN", 4);
        due("INT -2147483648; INT -1; DIV; OUT; RETURN", "INT -2147483648; OUT; RETURN", 4);
        due("INT -2147483648; INT -1; REM; OUT; RETURN", "INT 0; OUT; RETURN", 4);
        due("INT 65536; INT 65537; MUL; OUT; RETURN", "INT 65536; OUT; RETURN", 4);
        due("INT 1; INT 2; INT 3; MUL; ADD; OUT; RETURN", "INT 7; OUT; RETURN", 4, 4);
        stays("INT 6; INT 0; DIV; OUT; RETURN");
        stays("INT 6; INT 0; REM; OUT; RETURN");
        due("INT 0; INT 6; DIV; OUT; RETURN", "INT 0; OUT; RETURN", 4);
        due("INT 6; INT 0; ADD; OUT; RETURN", "INT 6; OUT; RETURN", 4);
        due("INT 6; INT 0; SUB; OUT; RETURN", "INT 6; OUT; RETURN", 4);
        due("INT 6; INT 0; MUL; OUT; RETURN", "INT 0; OUT; RETURN", 4);
    }

    private static void popped() {
        due("INT 1; POP; RETURN", "RETURN", 5);
        due("NULL; POP; RETURN", "RETURN", 5);
        due("READ 0 0; STORE 0; LOAD 0; POP; LOAD 0; OUT; RETURN", "READ 0 0; STORE 0; LOAD 0; OUT; RETURN", 5);
        due("READ 0 0; DUP; POP; OUT; RETURN", "READ 0 0; OUT; RETURN", 5);
        stays("READ 0 0; POP; RETURN");
        stays("NEW 0; POP; RETURN");
        due("INT 1; INT 2; INT 3; POP; POP; POP; RETURN", "RETURN", 5, 5, 5);
    }

    private static void zero() {
        due("INT 0; ZERO a; INT 1; OUT; a: RETURN", "RETURN", 6, 1, 1, 2);
        due("INT 5; ZERO a; INT 1; OUT; a: RETURN", "INT 1; OUT; RETURN", 6);
        due("a: INT 0; ZERO a; RETURN", "a: JUMP a", 6, 1);
        due("READ 0 0; ZERO a; INT 2; OUT; a: INT 5; ZERO b; RETURN; b: TRAP",
                "READ 0 0; ZERO a; INT 2; OUT; a: RETURN", 6, 1);
    }

    private static void less() {
        due("INT 1; INT 2; LESS a; TRAP; a: RETURN", "RETURN", 7, 1, 2);
        due("INT 2; INT 2; LESS a; RETURN; a: TRAP", "RETURN", 7, 1);
        due("INT 2; INT -2; LESS a; RETURN; a: TRAP", "RETURN", 7, 1);
        due("INT -2147483648; INT 2147483647; LESS a; TRAP; a: RETURN", "RETURN", 7, 1, 2);
        stays("READ 0 0; READ 0 0; LESS a; a: RETURN");
        stays("READ 0 0; INT 3; LESS a; a: RETURN");
        stays("INT 3; READ 0 0; LESS a; a: RETURN");
    }

    private static void none() {
        due("NULL; NONE a; TRAP; a: RETURN", "RETURN", 8, 1, 2);
        stays("NEW 0; NONE a; RETURN; a: TRAP");
    }

    private static void nothingAdded() {
        due("READ 0 0; INT 0; ADD; OUT; RETURN", "READ 0 0; OUT; RETURN", 9);
        due("READ 0 0; INT 0; SUB; OUT; RETURN", "READ 0 0; OUT; RETURN", 9);
        due("READ 0 0; INT 1; MUL; OUT; RETURN", "READ 0 0; OUT; RETURN", 9);
        due("READ 0 0; INT 1; DIV; OUT; RETURN", "READ 0 0; OUT; RETURN", 9);
        stays("READ 0 0; INT 1; REM; OUT; RETURN");
        stays("READ 0 0; INT 1; ADD; OUT; RETURN");
        stays("READ 0 0; INT 0; MUL; OUT; RETURN");
        stays("READ 0 0; INT 0; DIV; OUT; RETURN");
        stays("READ 0 0; INT -1; MUL; OUT; RETURN");
    }

    private static void storedInVain() {
        due("READ 0 0; STORE 1; RETURN", "READ 0 0; POP; RETURN", 10);
        due("INT 5; STORE 1; RETURN", "RETURN", 10, 5);
        // it is loaded somewhere, ahead of it too
        stays("READ 0 0; STORE 1; a: LOAD 1; OUT; READ 0 0; STORE 1; JUMP a");
        // as long as an instruction that is not reached loads it, it is not
        due("READ 0 0; STORE 1; RETURN; LOAD 1", "READ 0 0; POP; RETURN", 1, 10);
    }

    private static void loadedAndStored() {
        due("READ 0 0; STORE 1; LOAD 1; STORE 1; LOAD 1; OUT; RETURN", "READ 0 0; STORE 1; LOAD 1; OUT; RETURN", 11);
        stays("READ 0 0; STORE 1; LOAD 1; STORE 2; LOAD 2; OUT; LOAD 1; OUT; RETURN");
        stays("READ 0 0; STORE 1; LOAD 1; OUT; RETURN");
    }

    private static void condition() {
        due("READ 0 0; ZERO a; a: RETURN", "READ 0 0; POP; RETURN", 12);
        due("READ 0 1; NONE a; a: RETURN", "READ 0 1; POP; RETURN", 12);
        due("READ 0 0; STORE 0; LOAD 0; ZERO a; a: LOAD 0; OUT; RETURN", "READ 0 0; STORE 0; LOAD 0; OUT; RETURN",
                12, 5);
    }

    /** Only the first of those that a RULE takes together may be one to which a jump goes. */
    private static void jumpsBetween() {
        stays("INT 5; a: POP; INT 6; READ 0 0; ZERO a; RETURN");
        stays("INT 5; a: OUT; INT 6; READ 0 0; ZERO a; RETURN");
        stays("INT 5; a: INT 4; ADD; READ 0 0; ZERO a; OUT; RETURN");
        stays("INT 5; INT 4; a: ADD; DUP; READ 0 0; ZERO b; JUMP a; b: OUT; RETURN");
        stays("INT 0; a: ZERO b; RETURN; b: READ 0 0; JUMP a");
        stays("INT 1; a: INT 2; LESS b; RETURN; b: READ 0 0; JUMP a");
        stays("NULL; a: NONE b; RETURN; b: READ 0 1; JUMP a");
        stays("READ 0 0; INT 0; a: ADD; DUP; READ 0 0; ZERO b; JUMP a; b: OUT; RETURN");
        stays("READ 0 0; STORE 0; LOAD 0; a: STORE 0; LOAD 0; READ 0 0; ZERO a; OUT; RETURN");
        // to the first one it may go, and goes then to what is made, or to what stands behind
        due("READ 0 0; STORE 0; a: INT 2; INT 3; ADD; OUT; LOAD 0; ZERO a; RETURN",
                "READ 0 0; STORE 0; a: INT 5; OUT; LOAD 0; ZERO a; RETURN", 4);
        due("READ 0 0; STORE 0; a: INT 2; POP; LOAD 0; DUP; OUT; ZERO a; RETURN",
                "READ 0 0; STORE 0; a: LOAD 0; DUP; OUT; ZERO a; RETURN", 5);
        // a jump that is not reached counts as long as it stands there
        due("INT 5; a: POP; RETURN; JUMP a", "RETURN", 1, 5);
    }

    private static void theLongestCode() {
        int[] rules = new int[118];
        java.util.Arrays.fill(rules, 0, 59, 4);
        due("INT 1;" + "INT 1; ADD;".repeat(59) + "RETURN", "INT 60; RETURN", java.util.Arrays.copyOf(rules, 59));
        java.util.Arrays.fill(rules, 1);
        due("JUMP a;" + "TRAP;".repeat(118) + "a: RETURN", "RETURN", prepended(rules, 2));
        due("RETURN;" + "JUMP 1;".repeat(119), "RETURN", prepended(rules, 1));
    }

    private static int[] prepended(int[] rules, int first) {
        int[] more = new int[rules.length + 1];
        System.arraycopy(rules, 0, more, 1, rules.length);
        more[0] = first;
        return more;
    }

    /** The first place is ahead of the least RULE. */
    private static void order() {
        ShrinkHouse x = due("READ 0 0; ZERO a; a: JUMP b; TRAP; b: RETURN", "READ 0 0; POP; RETURN", 3, 1, 2, 12);
        Kit.due("origin of POP", Kit.origins(x, 0, 1), "1");
        Kit.due("origin of RETURN", Kit.origins(x, 0, 2), "4");
        // INT 1, INT 1, MUL is RULE 4 at the first place, not RULE 9 at the second
        due("INT 1; INT 1; MUL; OUT; RETURN", "INT 1; OUT; RETURN", 4);
        due("READ 0 0; INT 1; INT 1; MUL; MUL; OUT; RETURN", "READ 0 0; OUT; RETURN", 4, 9);
        // RULE 2 is ahead of RULE 3 at one place
        due("JUMP a; a: JUMP b; TRAP; b: RETURN", "RETURN", 2, 1, 2);
    }
}
