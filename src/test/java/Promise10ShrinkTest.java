public final class Promise10ShrinkTest {
    private static final String BAD_BUDGET = "throws.IllegalArgumentException";
    private static final String NO_STATE = "throws.IllegalStateException";

    public static void main(String[] args) {
        whatIsThrown();
        theAnswerIsItsBytes();
        sendsAreBound();
        sendsAreNotBound();
        onlyWhatIsReachedMakesLive();
        leavesArePutIn();
        whatIsALeaf();
        limitsOfPuttingIn();
        jumpsOverWhatWasPutIn();
        Kit.finish();
    }

    private static void whatIsThrown() {
        ShrinkHouse x = new ShrinkHouse();
        Kit.due("no program", Kit.shrink(x, 0), NO_STATE);
        Kit.due("no program, and the budget", Kit.shrink(x, 13), BAD_BUDGET);
        Kit.due("no program, and the budget", Kit.shrink(x, -1), BAD_BUDGET);
        Kit.read(x, "class 1 0; method 1 1 0 0; RETURN");
        Kit.due("no ENTRY", Kit.shrink(x, 0), NO_STATE);
        Kit.due("no ENTRY, and the budget", Kit.shrink(x, Integer.MAX_VALUE), BAD_BUDGET);
        x.entry(0);
        Kit.due("the budget", Kit.shrink(x, 13), BAD_BUDGET);
        Kit.due("the budget", Kit.shrink(x, Integer.MIN_VALUE), BAD_BUDGET);
        Kit.due("no small program came", x.size(true, 0), 0);
        Kit.due("budget 12", Kit.shrink(x, 12), "14");
        Kit.due("the budget", Kit.shrink(x, 13), BAD_BUDGET);
        Kit.due("the small program stays", x.size(true, 0), 1);
    }

    private static void theAnswerIsItsBytes() {
        ShrinkHouse x = Kit.house("class 1 0; method 1 1 0 0; INT 1; OUT; RETURN; method 2 1 0 0; RETURN");
        x.entry(0);
        Kit.due("shrink(0)", Kit.shrink(x, 0), "20");
        Kit.due("size(true, 4)", x.size(true, 4), 20);
        Kit.due("out(19)", x.out(19), 22);
        Kit.due("out(20)", x.out(20), Kit.NONE);
    }

    /** A SEND told by CLASS 1 of three in a row, with those LIVE that are made. */
    private static String sends(String made) {
        StringBuilder text = new StringBuilder("""
                class 1 0
                method 1 0 0 1
                RETURN
                class 2 1
                method 1 0 0 1
                INT 1
                OUT
                RETURN
                class 3 2
                method 1 0 0 1
                INT 2
                OUT
                RETURN
                class 4 2
                class 5 0
                method 9 1 0 0
                """);
        for (String c : made.trim().split(" +")) {
            if (!c.isEmpty()) {
                text.append("NEW ").append(c).append("; POP;");
            }
        }
        return text.append("NULL; SEND 1 0; RETURN").toString();
    }

    private static ShrinkHouse shrunk(String source, int entry, int budget) {
        ShrinkHouse x = Kit.house(source);
        Kit.due("entry", x.entry(entry) >= 0, true);
        Kit.due("shrink", Kit.shrink(x, budget), Integer.toString(x.size(true, 4)));
        return x;
    }

    private static void sendsAreBound() {
        for (String made : new String[] {"1", "3", "1 3", "0 1 4"}) {
            ShrinkHouse x = shrunk(sends(made), 3, 0);
            Kit.due("bound with " + made, x.made(0), 1);
            Kit.due("no shell with " + made, x.made(3), 0);
        }
        ShrinkHouse x = shrunk(sends("3"), 3, 0);
        Kit.dueSmall(x, "bound to what is told", """
                class 1 0
                class 2 1
                method 1 0 0 1
                INT 1
                OUT
                RETURN
                class 3 2
                class 4 0
                method 1 1 0 0
                NEW 2
                POP
                NULL
                CALL 1 0
                RETURN
                """);
    }

    private static void sendsAreNotBound() {
        // no MEANING; one, but of a CLASS below; two of them
        Kit.due("no MEANING", shrunk(sends(""), 3, 0).made(0), 0);
        Kit.due("LIVE ones that it does not cover", shrunk(sends("0 4"), 3, 0).made(0), 0);
        Kit.due("below", shrunk(sends("2"), 3, 0).made(0), 0);
        Kit.due("two", shrunk(sends("1 2"), 3, 0).made(0), 0);
        Kit.dueSmall(shrunk(sends("2"), 3, 0), "one MEANING below", """
                class 1 0
                class 2 1
                method 1 0 0 1
                TRAP
                class 3 2
                method 1 0 0 1
                INT 2
                OUT
                RETURN
                class 4 0
                method 1 1 0 0
                NEW 2
                POP
                NULL
                SEND 1 0
                RETURN
                """);
    }

    private static void onlyWhatIsReachedMakesLive() {
        String source = """
                class 1 0
                method 1 0 0 1
                RETURN
                class 2 1
                method 1 0 0 1
                INT 1
                OUT
                RETURN
                class 3 0
                method 1 1 0 0
                NEW 0
                SEND 0 0
                %s
                RETURN
                NEW 1
                POP
                method 2 1 0 0
                NEW 1
                POP
                RETURN
                """;
        Kit.due("not reached", shrunk(String.format(source, ""), 2, 0).made(0), 1);
        Kit.due("reached", shrunk(String.format(source, "CALL 2 1"), 2, 0).made(0), 0);
    }

    private static void leavesArePutIn() {
        String source = """
                class 1 0
                field 1 0 1
                method 1 1 0 1
                READ 0 0
                READ 0 0
                STORE 0
                LOAD 0
                LOAD 0
                CALL 0 1
                OUT
                READ 0 0
                LOAD 0
                CALL 0 1
                OUT
                RETURN
                method 2 1 1 3 0 0
                LOAD 0
                STORE 2
                LOAD 2
                LOAD 1
                SUB
                RETURN
                """;
        ShrinkHouse x = shrunk(source, 0, 6);
        Kit.due("put in", x.made(1), 2);
        Kit.dueSmall(x, "put in", """
                class 1 0
                field 1 0 1
                method 1 1 0 7
                READ 0 0
                READ 0 0
                STORE 0
                LOAD 0
                LOAD 0
                STORE 2
                STORE 1
                LOAD 1
                STORE 3
                LOAD 3
                LOAD 2
                SUB
                OUT
                READ 0 0
                LOAD 0
                STORE 5
                STORE 4
                LOAD 4
                STORE 6
                LOAD 6
                LOAD 5
                SUB
                OUT
                RETURN
                """);
        x = shrunk(source, 0, 5);
        Kit.due("the budget is too small", x.made(1), 0);
        Kit.due("the leaf stays", x.size(true, 2), 2);
    }

    private static int putIn(String leaf, int budget) {
        return shrunk("class 1 0; field 1 0 1; field 2 0 0; method 1 1 0 0; CALL 0 1; RETURN; method 2 " + leaf
                + "; method 3 1 0 0; RETURN", 0, budget).made(1);
    }

    private static void whatIsALeaf() {
        Kit.due("RETURN alone", putIn("1 0 0; RETURN", 1), 1);
        Kit.due("with budget 0", putIn("1 0 0; RETURN", 0), 0);
        Kit.due("each op", putIn("1 0 1; INT 1; STORE 0; LOAD 0; DUP; ADD; OUT; NULL; CAST 0; IS 0; WRITE 0 0; RETURN",
                11), 1);
        Kit.due("one more than the budget", putIn("1 0 1; INT 1; STORE 0; LOAD 0; DUP; ADD; OUT; NULL; POP; RETURN",
                8), 0);
        Kit.due("objects", putIn("1 0 0; NEW 0; DUP; GET 0 1; OUT; INT 1; PUT 0 1; RETURN", 12), 1);
        Kit.due("arithmetic", putIn("1 0 0; READ 0 0; INT 3; REM; INT 2; DIV; INT 2; MUL; INT 1; SUB; OUT; RETURN", 12),
                1);
        Kit.due("a jump", putIn("1 0 0; JUMP 1; RETURN", 12), 0);
        Kit.due("a jump", putIn("1 0 0; READ 0 0; ZERO 2; RETURN", 12), 0);
        // METHOD 2 is put in there, but what stands there so far is no LEAF by that
        Kit.due("a call", putIn("1 0 0; CALL 0 2; RETURN", 12), 1);
        Kit.due("a trap", putIn("1 0 0; TRAP; RETURN", 12), 0);
        Kit.due("no RETURN", putIn("1 0 0; TRAP", 12), 0);
        Kit.due("two RETURNS", putIn("1 0 0; RETURN; RETURN", 12), 0);
        Kit.due("more on the stack", putIn("1 0 0; INT 1; RETURN", 12), 0);
        Kit.due("not STATIC", shrunk("class 1 0; method 1 1 0 0; NEW 0; CALL 0 1; RETURN; method 2 0 0 1; RETURN", 0, 12)
                .made(1), 0);
        Kit.due("with a RESULT", shrunk("class 1 0; method 1 1 0 0; CALL 0 1; OUT; RETURN; method 2 1 1 0; INT 4;"
                + "RETURN", 0, 12).made(1), 1);
        Kit.due("more than its RESULT", shrunk("class 1 0; method 1 1 0 0; CALL 0 1; OUT; RETURN; method 2 1 1 0; INT 4;"
                + "DUP; RETURN", 0, 12).made(1), 0);
        Kit.due("a CALL that is not reached", shrunk("class 1 0; method 1 1 0 0; RETURN; CALL 0 1; method 2 1 0 0;"
                + "RETURN", 0, 12).made(1), 0);
    }

    private static void limitsOfPuttingIn() {
        String leaf = "; RETURN; method 2 1 0 %d; INT 1; DUP; DUP; OUT; OUT; OUT; RETURN";
        Kit.due("20 LOCALS", shrunk("class 1 0; method 1 1 0 17; CALL 0 1" + String.format(leaf, 3), 0, 12).made(1), 1);
        Kit.due("21 LOCALS", shrunk("class 1 0; method 1 1 0 18; CALL 0 1" + String.format(leaf, 3), 0, 12).made(1), 0);
        ShrinkHouse x = shrunk("class 1 0; method 1 1 0 14; CALL 0 1; CALL 0 1; CALL 0 1" + String.format(leaf, 3), 0, 12);
        Kit.due("20 LOCALS with the second", x.made(1), 2);
        Kit.due("LOCALS", x.method(true, 0, 0, 4), 20);
        Kit.due("the leaf is still called", x.size(true, 2), 2);

        // the CALL goes, six come: 115 with the CALL and RETURN are 120 then
        String many = "INT 1; OUT;".repeat(56);
        Kit.due("120", shrunk("class 1 0; method 1 1 0 0; NULL; " + many + "CALL 0 1" + String.format(leaf, 0), 0, 12)
                .made(1), 1);
        Kit.due("121", shrunk("class 1 0; method 1 1 0 0; NULL; NULL; " + many + "CALL 0 1" + String.format(leaf, 0), 0,
                12).made(1), 0);

        // under it 7, and 3 of the leaf's own
        Kit.due("10 on the stack", shrunk("class 1 0; method 1 1 0 0;" + "NULL;".repeat(7) + "CALL 0 1"
                + String.format(leaf, 0), 0, 12).made(1), 1);
        Kit.due("11 on the stack", shrunk("class 1 0; method 1 1 0 0;" + "NULL;".repeat(8) + "CALL 0 1"
                + String.format(leaf, 0), 0, 12).made(1), 0);
        // PARAMS do not lie under it
        String sum = "; RETURN; method 2 1 1 2 0 0; LOAD 0; LOAD 1; ADD; RETURN";
        Kit.due("its PARAMS are taken", shrunk("class 1 0; method 1 1 0 0;" + "INT 1;".repeat(10) + "CALL 0 1" + sum, 0,
                12).made(1), 1);
    }

    private static void jumpsOverWhatWasPutIn() {
        ShrinkHouse x = shrunk("""
                class 1 0
                field 1 0 1
                method 1 1 0 0
                READ 0 0
                ZERO a
                b: INT 7
                c: CALL 0 1
                d: CALL 0 2
                e: READ 0 0
                ZERO b
                READ 0 0
                READ 0 0
                ZERO c
                POP
                READ 0 0
                ZERO d
                a: RETURN
                method 2 1 0 1 0
                LOAD 0
                OUT
                RETURN
                method 3 1 0 0
                RETURN
                """, 0, 3);
        Kit.due("put in", x.made(1), 2);
        Kit.dueSmall(x, "jumps", """
                class 1 0
                field 1 0 1
                method 1 1 0 1
                READ 0 0
                ZERO a
                b: INT 7
                c: STORE 0
                LOAD 0
                OUT
                d: READ 0 0
                ZERO b
                READ 0 0
                READ 0 0
                ZERO c
                POP
                READ 0 0
                ZERO d
                a: RETURN
                """);
        x = shrunk("class 1 0; field 1 0 1; method 1 1 0 0; JUMP a; b: CALL 0 1; RETURN; a: READ 0 0; ZERO b; JUMP a;"
                + "method 2 1 0 0; INT 1; OUT; INT 2; OUT; RETURN", 0, 12);
        Kit.dueSmall(x, "the first one jumps", "class 1 0; field 1 0 1; method 1 1 0 0; JUMP a; b: INT 1; OUT; INT 2;"
                + "OUT; RETURN; a: READ 0 0; ZERO b; JUMP a");
    }
}
