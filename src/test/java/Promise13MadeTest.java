public final class Promise13MadeTest {
    public static void main(String[] args) {
        ShrinkHouse x = new ShrinkHouse();
        dueAll(x, 0, 0, 0, 0, new int[13]);
        Kit.read(x, """
                class 1 0
                method 1 1 0 1
                NEW 0
                SEND 0 1
                CALL 0 2
                CALL 0 2
                NULL
                SEND 1 0
                INT 1
                INT 1
                SUB
                ZERO a
                TRAP
                a: RETURN
                method 2 0 0 1
                RETURN
                method 3 1 0 0
                INT 3
                INT 4
                ADD
                OUT
                RETURN
                class 2 0
                method 2 0 0 1
                RETURN
                """);
        dueAll(x, 0, 0, 0, 0, new int[13]);
        x.entry(0);
        dueAll(x, 0, 0, 0, 0, new int[13]);
        Kit.shrink(x, 5);
        int[] rules = new int[13];
        // RULES are done in the LEAF itself, too; SUB, ZERO, the TRAP, the JUMP in the ENTRY
        rules[4] = 2 + 1 + 1;
        rules[6] = 1;
        rules[1] = 1;
        rules[2] = 1;
        dueAll(x, 1, 2, 7, 1, rules);
        Kit.shrink(x, 0);
        rules[4] = 2;
        dueAll(x, 1, 0, 5, 1, rules);
        x.again();
        dueAll(x, 0, 0, 0, 0, new int[13]);
        Kit.finish();
    }

    private static void dueAll(ShrinkHouse x, int bound, int putIn, int all, int shells, int[] rules) {
        Kit.due("made(0)", x.made(0), bound);
        Kit.due("made(1)", x.made(1), putIn);
        Kit.due("made(2)", x.made(2), all);
        Kit.due("made(3)", x.made(3), shells);
        for (int r = 1; r <= 12; r++) {
            Kit.due("made(10 + " + r + ")", x.made(10 + r), rules[r]);
        }
        for (int what : new int[] {-1, 4, 9, 10, 23, Integer.MAX_VALUE, Integer.MIN_VALUE}) {
            Kit.due("made(" + what + ")", x.made(what), Kit.NONE);
        }
    }
}
