public final class Promise12KeptTest {
    /**
     * CLASS 0 is above 1; 2 is told by IS; 3 is the TYPE of a FIELD, 4 a RESULT, 5 a PARAM's TYPE, 6 is LIVE;
     * 7 and 8 are told by what is not reached.
     */
    private static final String SOURCE = """
            class 1 0
            field 1 0 0
            class 2 1
            field 1 0 0
            field 2 4 1
            field 3 8 1
            method 1 1 0 0
            READ 1 1
            IS 2
            POP
            CALL 1 2
            POP
            NEW 6
            POP
            NULL
            CALL 1 3
            RETURN
            NEW 7
            method 2 1 0 0
            NEW 7
            POP
            RETURN
            method 3 1 6 0
            NULL
            RETURN
            method 4 1 0 1 6
            RETURN
            class 3 0
            class 4 0
            class 5 0
            class 6 0
            class 7 0
            field 1 0 0
            class 8 0
            class 9 0
            """;

    public static void main(String[] args) {
        newNumbers();
        whatIsToldByShells();
        namesAnew();
        notKept();
        Kit.finish();
    }

    private static void newNumbers() {
        ShrinkHouse x = Kit.house(SOURCE);
        Kit.due("without a small program", x.kept(0, 0, 0), Kit.NONE);
        x.entry(0);
        Kit.shrink(x, 0);
        // as RESULT 6 is CLASS 4, as TYPE 6 is CLASS 5
        int[] classes = {0, 1, 2, 3, 4, 5, 6, Kit.NONE, Kit.NONE};
        for (int c = 0; c < classes.length; c++) {
            Kit.due("kept(0, " + c + ", 0)", x.kept(0, c, 0), classes[c]);
            // "sort 0 CLASS c": whatever k is
            for (int k : new int[] {77, -1, Integer.MAX_VALUE, Integer.MIN_VALUE}) {
                Kit.due("kept(0, " + c + ", " + k + ")", x.kept(0, c, k), classes[c]);
            }
        }
        Kit.due("field of 0", x.kept(1, 0, 0), Kit.NONE);
        int[] fields = {Kit.NONE, 0, Kit.NONE, Kit.NONE};
        int[] methods = {0, Kit.NONE, 1, 2, Kit.NONE};
        for (int k = 0; k < fields.length; k++) {
            Kit.due("kept(1, 1, " + k + ")", x.kept(1, 1, k), fields[k]);
        }
        for (int k = 0; k < methods.length; k++) {
            Kit.due("kept(2, 1, " + k + ")", x.kept(2, 1, k), methods[k]);
        }
        Kit.due("field of 6", x.kept(1, 6, 0), Kit.NONE);
        // the LEAVES are put in, so that their RESULT and PARAM are not told any more
        Kit.shrink(x, 12);
        Kit.due("kept(0, 4, 0)", x.kept(0, 4, 0), Kit.NONE);
        Kit.due("kept(0, 5, 0)", x.kept(0, 5, 0), Kit.NONE);
        Kit.due("kept(0, 6, 0)", x.kept(0, 6, 0), 4);
        Kit.due("kept(2, 1, 2)", x.kept(2, 1, 2), Kit.NONE);
    }

    private static void whatIsToldByShells() {
        ShrinkHouse x = Kit.house("""
                class 1 0
                class 2 0
                class 3 0
                method 1 0 2 9 2 0
                NEW 0
                RETURN
                class 4 3
                class 5 0
                method 1 1 0 0
                NULL
                NULL
                INT 1
                SEND 2 0
                POP
                RETURN
                """);
        x.entry(1);
        Kit.shrink(x, 12);
        Kit.due("shells", x.made(3), 1);
        Kit.dueSmall(x, "a shell", """
                class 1 0
                class 2 0
                class 3 0
                method 1 0 2 3 2 0
                TRAP
                class 4 0
                method 1 1 0 0
                NULL
                NULL
                INT 1
                SEND 2 0
                POP
                RETURN
                """);
        Kit.due("RESULT", x.kept(0, 0, 0), 0);
        Kit.due("PARAM", x.kept(0, 1, 0), 1);
        Kit.due("below, not LIVE", x.kept(0, 3, 0), Kit.NONE);
        Kit.due("the shell", x.kept(2, 2, 0), 0);
        Kit.due("without ORIGIN", x.origin(0, 0, 0), Kit.NONE);
        Kit.run(x, true, 0, 100);
        Kit.due("a trap at the SEND", x.trace(0), 1003);
        Kit.due("told back", x.back(0), 1003);
    }

    private static void namesAnew() {
        // METHODS 20 of CLASSES 0, 1 and 2 are one SEND's; 30 of CLASS 1 and 2 are so without one in CLASS 0
        ShrinkHouse x = Kit.house("""
                class 1 0
                method 10 1 0 0
                NEW 0
                SEND 0 1
                NEW 1
                SEND 1 1
                NEW 2
                SEND 1 1
                NEW 2
                SEND 0 1
                CALL 2 0
                CALL 3 0
                RETURN
                method 20 0 0 1
                RETURN
                class 2 1
                method 20 0 0 1
                RETURN
                method 30 0 0 1
                RETURN
                class 3 2
                method 25 1 0 0
                RETURN
                method 20 0 0 1
                RETURN
                method 30 0 0 1
                RETURN
                class 4 0
                method 50 1 0 0
                RETURN
                """);
        x.entry(0);
        Kit.shrink(x, 0);
        int[][] names = {{1, 2}, {2, 3}, {4, 2, 3}, {1}};
        for (int c = 0; c < names.length; c++) {
            for (int m = 0; m < names[c].length; m++) {
                Kit.due("name of " + c + " " + m, x.method(true, c, m, 0), names[c][m]);
            }
        }
    }

    private static void notKept() {
        ShrinkHouse x = Kit.house(SOURCE);
        x.entry(0);
        Kit.shrink(x, 0);
        int[][] none = {{-1, 0, 0}, {3, 0, 0}, {0, 9, 0}, {0, -1, 0}, {1, 1, 4}, {1, 1, -1}, {2, 1, 5}, {2, 1, -1},
            {2, 9, 0}, {1, 9, 0}, {2, -1, 0}, {2, 0, 0}};
        for (int[] one : none) {
            Kit.due("kept", x.kept(one[0], one[1], one[2]), Kit.NONE);
        }
        x.again();
        Kit.due("no small program", x.kept(0, 0, 0), Kit.NONE);
    }
}
