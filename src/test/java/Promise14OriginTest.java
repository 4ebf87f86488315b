public final class Promise14OriginTest {
    public static void main(String[] args) {
        ShrinkHouse x = new ShrinkHouse();
        Kit.due("without", x.origin(0, 0, 0), Kit.NONE);
        Kit.read(x, """
                class 1 0
                field 1 0 1
                method 9 1 0 0
                RETURN
                method 1 1 0 1
                READ 0 0
                READ 0 0
                CALL 1 0
                OUT
                INT 1
                INT 2
                ADD
                OUT
                READ 0 0
                STORE 0
                READ 0 0
                ZERO a
                a: INT 0
                ZERO b
                TRAP
                b: NULL
                SEND 0 2
                RETURN
                method 2 0 0 1
                RETURN
                class 2 0
                method 3 1 1 2 0 0
                LOAD 1
                LOAD 0
                SUB
                RETURN
                """);
        x.entry(1);
        Kit.due("without a small program", x.origin(0, 0, 0), Kit.NONE);
        Kit.shrink(x, 4);
        // the ENTRY is METHOD 1 of the program and 0 of the small one; the LEAF is METHOD 3, its CALL is at 1002
        String[] due = {"1000", "1001", "1002", "1002", "3000 1002", "3001 1002", "3002 1002", "1003", "1006", "1007",
            "1008", "1009", "1010", "1011", "1015", "1016", "1017"};
        Kit.dueSmall(x, "the code", """
                class 1 0
                field 1 0 1
                method 1 1 0 3
                READ 0 0
                READ 0 0
                STORE 2
                STORE 1
                LOAD 2
                LOAD 1
                SUB
                OUT
                INT 3
                OUT
                READ 0 0
                POP
                READ 0 0
                POP
                NULL
                SEND 0 1
                RETURN
                method 2 0 0 1
                TRAP
                """);
        for (int i = 0; i < due.length; i++) {
            Kit.due("origin of " + i, Kit.origins(x, 0, i), due[i]);
            Kit.due("origin -1 of " + i, x.origin(0, i, -1), Kit.NONE);
            Kit.due("origin 2 of " + i, x.origin(0, i, 2), Kit.NONE);
        }
        Kit.due("of the shell", x.origin(1, 0, 0), Kit.NONE);
        Kit.due("no instruction", x.origin(0, due.length, 0), Kit.NONE);
        Kit.due("no instruction", x.origin(0, -1, 0), Kit.NONE);
        Kit.due("no method", x.origin(2, 0, 0), Kit.NONE);
        Kit.due("no method", x.origin(-1, 0, 0), Kit.NONE);
        jumpsThatRulesMake();
        x.again();
        Kit.due("no small program", x.origin(0, 0, 0), Kit.NONE);
        Kit.finish();
    }

    /** What is left of INT 0 and ZERO is a JUMP with the ORIGIN of ZERO. */
    private static void jumpsThatRulesMake() {
        ShrinkHouse x = Kit.house("""
                class 1 0
                field 1 0 1
                method 1 1 0 0
                a: READ 0 0
                OUT
                INT 0
                ZERO a
                TRAP
                method 2 1 0 0
                b: READ 0 0
                OUT
                INT 1
                INT 2
                LESS b
                TRAP
                method 3 1 0 0
                c: READ 0 0
                OUT
                NULL
                NONE c
                TRAP
                """);
        x.entry(0);
        x.entry(1);
        x.entry(2);
        Kit.shrink(x, 0);
        Kit.due("instructions", x.size(true, 3), 9);
        Kit.due("of ZERO", Kit.origins(x, 0, 2), "3");
        Kit.due("of LESS", Kit.origins(x, 1, 2), "1004");
        Kit.due("of NONE", Kit.origins(x, 2, 2), "2003");
    }
}
