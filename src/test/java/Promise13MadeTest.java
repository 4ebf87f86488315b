public final class Promise13MadeTest {
    public static void main(String[] args) {
        ShrinkHouse x = new ShrinkHouse();
        dueAll(x, 0, 0, 0, 0, new int[13]);
        Kit.read(x, """
                class 1 0
                method 1 1 0 1
                NEW 0
                SEND 0 1
                CALL 0 2
                CALL 0 2
                NULL
                SEND 1 0
                INT 1
                INT 1
                SUB
                ZERO a
                TRAP
                a: RETURN
                method 2 0 0 1
                RETURN
                method 3 1 0 0
                INT 3
                INT 4
                ADD
                OUT
                RETURN
                class 2 0
                method 2 0 0 1
                RETURN
                """);
        dueAll(x, 0, 0, 0, 0, new int[13]);
        x.entry(0);
        dueAll(x, 0, 0, 0, 0, new int[13]);
        Kit.shrink(x, 5);
        int[] rules = new int[13];
        // RULES are done in the LEAF itself, too; SUB, ZERO, the TRAP, the JUMP in the ENTRY
        rules[4] = 2 + 1 + 1;
        rules[6] = 1;
        rules[1] = 1;
        rules[2] = 1;
        dueAll(x, 1, 2, 7, 1, rules);
        Kit.shrink(x, 0);
        rules[4] = 2;
        dueAll(x, 1, 0, 5, 1, rules);
        x.again();
        dueAll(x, 0, 0, 0, 0, new int[13]);
        inAMethodThatIsNotKept();
        inALeaf();
        Kit.finish();
    }

    /** What was done was done, also in the code of a METHOD that nobody reaches any more in the end. */
    private static void inAMethodThatIsNotKept() {
        ShrinkHouse x = Kit.shrunk("class 1 0; method 1 1 0 0; INT 1; ZERO a; RETURN; a: CALL 0 1; RETURN; method 2 1 0 1;"
                + "NEW 0; SEND 0 2; CALL 0 3; INT 1; STORE 0; RETURN; TRAP; method 3 0 0 1; RETURN; method 4 1 0 0; INT 3; OUT;"
                + "RETURN", 0, 3);
        Kit.due("it is not KEPT", x.kept(2, 0, 1), Kit.NONE);
        Kit.due("one METHOD is", x.size(true, 2), 1);
        int[] rules = new int[13];
        rules[6] = 1;
        rules[10] = 1;
        rules[5] = 1;
        // CALL, RETURN of the ENTRY; the TRAP
        rules[1] = 2 + 1;
        dueAll(x, 1, 1, 6, 0, rules);
    }

    /** "whose code, so far as (a) has it": a LEAF is put in as it is ahead of RULES, and these are done at each place. */
    private static void inALeaf() {
        ShrinkHouse x = Kit.shrunk("class 1 0; method 1 1 0 0; CALL 0 1; CALL 0 1; RETURN; method 2 1 0 0; INT 1; POP;"
                + "INT 3; OUT; RETURN", 0, 5);
        int[] rules = new int[13];
        rules[5] = 3;
        dueAll(x, 0, 2, 3, 0, rules);
        // by RULES it would have no more than three instructions
        x = Kit.shrunk("class 1 0; method 1 1 0 0; CALL 0 1; CALL 0 1; RETURN; method 2 1 0 0; INT 1; POP;"
                + "INT 3; OUT; RETURN", 0, 4);
        rules[5] = 1;
        dueAll(x, 0, 0, 1, 0, rules);
    }

    private static void dueAll(ShrinkHouse x, int bound, int putIn, int all, int shells, int[] rules) {
        Kit.due("made(0)", x.made(0), bound);
        Kit.due("made(1)", x.made(1), putIn);
        Kit.due("made(2)", x.made(2), all);
        Kit.due("made(3)", x.made(3), shells);
        for (int r = 1; r <= 12; r++) {
            Kit.due("made(10 + " + r + ")", x.made(10 + r), rules[r]);
        }
        for (int what : new int[] {-1, 4, 9, 10, 23, Integer.MAX_VALUE, Integer.MIN_VALUE}) {
            Kit.due("made(" + what + ")", x.made(what), Kit.NONE);
        }
    }
}
