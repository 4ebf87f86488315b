public final class Promise15RunTest {
    private static final String BAD = "throws.IllegalArgumentException";
    private static final String NO_PROGRAM = "throws.IllegalStateException";

    public static void main(String[] args) {
        whatIsThrown();
        arithmetic();
        jumps();
        fieldsAndObjects();
        callsAndSends();
        results();
        tenClassesInARow();
        castsAndIs();
        traps();
        tooManyFrames();
        tooManyObjects();
        cut();
        eachRunBeginsAnew();
        Kit.finish();
    }

    private static void whatIsThrown() {
        ShrinkHouse x = new ShrinkHouse();
        Kit.due("no program", Kit.run(x, false, 0, 1), NO_PROGRAM);
        Kit.due("no program, no such ENTRY", Kit.run(x, false, -1, 0), NO_PROGRAM);
        Kit.read(x, "class 1 0; method 1 1 0 0; INT 1; OUT; RETURN; method 2 1 0 0; RETURN");
        Kit.due("no ENTRY", Kit.run(x, false, 0, 1), BAD);
        x.entry(0);
        Kit.due("no small program", Kit.run(x, true, 0, 1), NO_PROGRAM);
        Kit.due("no small program, and no such ENTRY", Kit.run(x, true, 5, 0), NO_PROGRAM);
        Kit.due("no such ENTRY", Kit.run(x, false, 1, 1), BAD);
        Kit.due("no such ENTRY", Kit.run(x, false, -1, 1), BAD);
        Kit.due("no steps", Kit.run(x, false, 0, 0), BAD);
        Kit.due("steps", Kit.run(x, false, 0, -1), BAD);
        Kit.due("steps", Kit.run(x, false, 0, 20001), BAD);
        Kit.due("steps", Kit.run(x, false, 0, Integer.MAX_VALUE), BAD);
        Kit.due("no run came", x.result(0), Kit.NONE);
        Kit.due("20000 steps", Kit.run(x, false, 0, 20000), "0");
        Kit.due("steps", Kit.run(x, false, 0, 0), BAD);
        Kit.due("the run stays", x.result(1), 3);
        Kit.shrink(x, 0);
        Kit.due("small", Kit.run(x, true, 0, 20000), "0");
        Kit.due("small, steps", Kit.run(x, true, 0, 20001), BAD);
        Kit.due("small, no such ENTRY", Kit.run(x, true, 1, 1), BAD);
    }

    private static ShrinkHouse ran(String source, int entry, String how, String outputs) {
        ShrinkHouse x = Kit.house(source);
        Kit.due("entry", x.entry(entry) >= 0, true);
        Kit.due(source, Kit.run(x, false, 0, 20000), how);
        Kit.due(source, Kit.outputs(x), outputs);
        Kit.shrink(x, 12);
        Kit.due("small: " + source, Kit.run(x, true, 0, 20000), how);
        Kit.due("small: " + source, Kit.outputs(x), outputs);
        Kit.run(x, false, 0, 20000);
        return x;
    }

    private static ShrinkHouse ranCode(String code, String how, String outputs) {
        return ran("class 1 0; field 1 0 1; method 1 1 0 3; " + code, 0, how, outputs);
    }

    private static void arithmetic() {
        ranCode("INT 7; READ 0 0; ADD; INT 2; SUB; OUT; RETURN", "0", "5");
        String two = "INT %d; STORE 0; INT %d; STORE 1; LOAD 0; LOAD 1; %s; OUT; RETURN";
        int min = Integer.MIN_VALUE;
        int max = Integer.MAX_VALUE;
        Object[][] rows = {{max, 1, "ADD", min}, {min, 1, "SUB", max}, {65536, 65536, "MUL", 0}, {max, max, "MUL", 1},
            {7, 2, "DIV", 3}, {-7, 2, "DIV", -3}, {7, -2, "DIV", -3}, {-7, 2, "REM", -1}, {7, -2, "REM", 1},
            {min, -1, "DIV", min}, {min, -1, "REM", 0}, {3, 8, "SUB", -5}};
        for (Object[] row : rows) {
            ranCode(String.format(two, row[0], row[1], row[2]), "0", row[3].toString());
        }
        ranCode("INT 5; DUP; MUL; DUP; OUT; OUT; RETURN", "0", "25 25");
        ranCode("INT 5; INT 6; POP; OUT; RETURN", "0", "5");
    }

    private static void jumps() {
        ranCode("INT 3; STORE 0; a: LOAD 0; ZERO b; LOAD 0; OUT; LOAD 0; INT 1; SUB; STORE 0; JUMP a; b: RETURN", "0",
                "3 2 1");
        String less = "READ 0 0; INT %d; ADD; READ 0 0; INT %d; ADD; LESS a; INT 0; OUT; RETURN; a: INT 1; OUT; RETURN";
        ranCode(String.format(less, 1, 2), "0", "1");
        ranCode(String.format(less, 2, 2), "0", "0");
        ranCode(String.format(less, 2, 1), "0", "0");
        ranCode(String.format(less, Integer.MIN_VALUE, Integer.MAX_VALUE), "0", "1");
        ranCode("NEW 0; STORE 0; LOAD 0; NONE a; INT 1; OUT; a: NULL; STORE 1; LOAD 1; NONE b; TRAP; b: INT 2; OUT;"
                + "RETURN", "0", "1 2");
    }

    private static void fieldsAndObjects() {
        // FIELDS of one NAME in a CLASS and the one above it are two
        ShrinkHouse x = ran("""
                class 1 0
                field 1 0 0
                field 2 1 0
                field 3 0 1
                class 2 1
                field 1 0 0
                field 2 2 1
                method 1 1 0 2
                NEW 1
                STORE 0
                LOAD 0
                GET 0 0
                OUT
                LOAD 0
                INT 11
                PUT 0 0
                LOAD 0
                INT 22
                PUT 1 0
                LOAD 0
                GET 0 0
                OUT
                LOAD 0
                GET 1 0
                OUT
                LOAD 0
                GET 0 1
                NONE a
                TRAP
                a: READ 1 1
                NONE b
                TRAP
                b: LOAD 0
                LOAD 0
                PUT 0 1
                LOAD 0
                GET 0 1
                GET 0 0
                OUT
                NEW 1
                GET 0 0
                OUT
                READ 0 2
                OUT
                INT 33
                WRITE 0 2
                READ 0 2
                OUT
                RETURN
                """, 0, "0", "0 11 22 11 0 0 33");
        Kit.due("objects", x.result(5), 2);
    }

    private static void callsAndSends() {
        ran("""
                class 1 0
                method 1 0 1 3 0 0
                LOAD 1
                LOAD 2
                SUB
                RETURN
                method 2 0 1 1
                INT 5
                RETURN
                class 2 1
                class 3 2
                method 1 0 1 3 0 0
                LOAD 0
                LOAD 2
                LOAD 1
                CALL 0 0
                RETURN
                class 4 0
                method 1 1 0 0
                NEW 0
                INT 9
                INT 2
                SEND 0 0
                OUT
                NEW 1
                INT 9
                INT 2
                SEND 0 0
                OUT
                NEW 2
                INT 9
                INT 2
                SEND 0 0
                OUT
                NEW 2
                INT 9
                INT 2
                CALL 0 0
                OUT
                NEW 2
                SEND 0 1
                OUT
                INT 41
                INT 42
                INT 3
                INT 8
                CALL 3 1
                OUT
                NEW 2
                INT 6
                INT 4
                SEND 0 0
                OUT
                OUT
                OUT
                CALL 3 2
                RETURN
                method 2 1 1 2 0 0
                LOAD 0
                INT 100
                LOAD 1
                RETURN
                method 3 1 0 0
                INT 77
                OUT
                NULL
                RETURN
                """, 3, "0", "7 7 -7 7 5 8 -2 42 41 77");
    }

    /** A RESULT comes to the one below, nothing comes of a METHOD without one; what else is on its stack goes. */
    private static void results() {
        String source = "class 1 0; field 1 0 1; method 1 1 0 0; INT 20; CALL 0 1; SUB; OUT; RETURN;"
                + "method 2 1 1 0; INT 5; CALL 0 2; READ 0 0; ZERO a; TRAP; a: INT 7; RETURN;"
                + "method 3 1 0 0; INT 1; INT 2; INT 3; READ 0 0; ZERO b; TRAP; b: RETURN";
        ShrinkHouse x = ran(source, 0, "0", "13");
        Kit.due("the most frames", x.result(6), 3);
        // an ENTRY's RESULT goes with it
        ran("class 1 0; method 1 1 1 0; INT 1; OUT; INT 20; RETURN", 0, "0", "1");
    }

    /** Each CLASS has six FIELDS of its own; the METHOD of the topmost one is found from the lowest one on. */
    private static void tenClassesInARow() {
        StringBuilder text = new StringBuilder();
        for (int c = 0; c < 10; c++) {
            text.append("class 1 ").append(c).append(';');
            for (int k = 0; k < 6; k++) {
                text.append("field ").append(k + 1).append(" 0 0;");
            }
            if (c == 0) {
                text.append("method 1 0 1 1; LOAD 0; GET 0 5; RETURN;");
            }
        }
        text.append("method 2 1 0 2; NEW 9; STORE 0; NEW 9; STORE 1;");
        for (int c = 0; c < 10; c++) {
            text.append("LOAD 0; INT ").append(c + 1).append("; PUT ").append(c).append(" 5;");
        }
        text.append("LOAD 1; GET 0 0; OUT; LOAD 0; SEND 0 0; OUT; LOAD 1; SEND 0 0; OUT;");
        text.append("LOAD 0; GET 9 5; OUT; LOAD 0; GET 9 0; OUT; LOAD 0; IS 0; OUT; NEW 8; IS 9; OUT; RETURN");
        ShrinkHouse x = ran(text.toString(), 1, "0", "0 1 0 10 0 1 0");
        Kit.due("bound", x.made(0), 2);
    }

    private static void castsAndIs() {
        String head = "class 1 0; class 2 1; class 3 0; method 1 1 0 0;";
        ran(head + "NEW 1; IS 0; OUT; NEW 1; IS 1; OUT; NEW 0; IS 1; OUT; NEW 2; IS 0; OUT; NULL; IS 0; OUT; RETURN", 0,
                "0", "1 1 0 0 0");
        ran(head + "NEW 1; CAST 0; IS 1; OUT; NULL; CAST 2; NONE a; TRAP; a: NEW 1; CAST 0; CAST 1; POP; RETURN", 0, "0",
                "1");
        ran(head + "INT 4; OUT; NEW 0; CAST 1; POP; RETURN", 0, "1", "4");
        ran(head + "NEW 2; CAST 0; POP; RETURN", 0, "1", "");
    }

    private static void dueTrap(String code, int trap, int steps) {
        String head = "class 1 0; field 1 0 0; field 2 1 1; field 3 0 1; method 9 0 0 1; RETURN; method 1 1 0 1;";
        ShrinkHouse x = ran(head + code, 1, "1", "");
        Kit.due(code + ": the TRAP", x.result(2), trap);
        Kit.due(code + ": STEPS", x.result(1), steps);
        Kit.due(code + ": FRAMES", x.result(4), 1);
        Kit.due(code + ": place", x.trace(0), 1000 + steps - 1);
    }

    private static void traps() {
        dueTrap("READ 0 1; GET 0 0; POP; RETURN", 1, 2);
        dueTrap("READ 0 1; INT 1; PUT 0 0; RETURN", 1, 3);
        dueTrap("READ 0 1; CALL 0 0; RETURN", 1, 2);
        dueTrap("READ 0 1; SEND 0 0; RETURN", 1, 2);
        dueTrap("NULL; SEND 0 0; RETURN", 1, 2);
        dueTrap("INT 1; READ 0 2; DIV; OUT; RETURN", 2, 3);
        dueTrap("INT 1; READ 0 2; REM; OUT; RETURN", 2, 3);
        dueTrap("INT 1; INT 0; DIV; OUT; RETURN", 2, 3);
        dueTrap("TRAP", 4, 1);
    }

    private static void tooManyFrames() {
        String deep = "class 1 0; field 1 0 1; method 1 1 0 0; READ 0 0; INT 1; ADD; DUP; WRITE 0 0; OUT; %s; RETURN;"
                + "method 2 0 0 1; RETURN";
        ShrinkHouse x = Kit.house(String.format(deep, "CALL 0 0"));
        x.entry(0);
        Kit.due("CALL with 40 frames", Kit.run(x, false, 0, 20000), "1");
        Kit.due("the TRAP", x.result(2), 5);
        Kit.due("outputs", x.result(3), 40);
        Kit.due("frames", x.result(4), 40);
        Kit.due("the most frames", x.result(6), 40);
        Kit.due("steps", x.result(1), 280);
        // with 40 FRAMES, NULL is ahead of it
        x = Kit.house("class 1 0; field 1 0 1; method 1 1 0 0; READ 0 0; INT 1; ADD; DUP; WRITE 0 0; INT -40; ADD;"
                + "ZERO a; CALL 0 0; RETURN; a: NULL; SEND 0 1; RETURN; method 2 0 0 1; RETURN");
        x.entry(0);
        Kit.due("SEND of NULL", Kit.run(x, false, 0, 20000), "1");
        Kit.due("the TRAP", x.result(2), 1);
        Kit.due("frames", x.result(4), 40);
        x = Kit.house("class 1 0; field 1 0 1; method 1 1 0 0; READ 0 0; INT 1; ADD; DUP; WRITE 0 0; INT -40; ADD;"
                + "ZERO a; CALL 0 0; RETURN; a: NEW 0; SEND 0 1; RETURN; method 2 0 0 1; RETURN");
        x.entry(0);
        Kit.due("SEND with 40 frames", Kit.run(x, false, 0, 20000), "1");
        Kit.due("the TRAP", x.result(2), 5);
        Kit.due("where", x.trace(0), 11);
    }

    private static void tooManyObjects() {
        ShrinkHouse x = Kit.house("class 1 0; method 1 1 0 0; a: NEW 0; POP; JUMP a");
        x.entry(0);
        Kit.due("run", Kit.run(x, false, 0, 20000), "1");
        Kit.due("the TRAP", x.result(2), 6);
        Kit.due("objects", x.result(5), 200);
        Kit.due("steps", x.result(1), 601);
        Kit.due("trace", x.trace(0), 0);
    }

    private static void cut() {
        ShrinkHouse x = Kit.house("class 1 0; method 1 1 0 0; INT 1; OUT; INT 2; OUT; RETURN");
        x.entry(0);
        Kit.due("4 of 5", Kit.run(x, false, 0, 4), "2");
        Kit.due("steps", x.result(1), 4);
        Kit.due("outputs", Kit.outputs(x), "1 2");
        Kit.due("no trace", x.result(4), 0);
        Kit.due("no trap", x.result(2), 0);
        Kit.due("5 of 5", Kit.run(x, false, 0, 5), "0");
        Kit.due("1 of 5", Kit.run(x, false, 0, 1), "2");
        x = Kit.house("class 1 0; method 1 1 0 0; NULL; TRAP");
        x.entry(0);
        Kit.due("1 of 2", Kit.run(x, false, 0, 1), "2");
        Kit.due("2 of 2", Kit.run(x, false, 0, 2), "1");
    }

    private static void eachRunBeginsAnew() {
        ShrinkHouse x = Kit.house("class 1 0; field 1 0 0; field 2 0 1; method 1 1 0 1; READ 0 1; OUT; INT 5; WRITE 0 1;"
                + "NEW 0; DUP; GET 0 0; OUT; INT 6; PUT 0 0; RETURN");
        x.entry(0);
        for (int n = 0; n < 3; n++) {
            Kit.due("run", Kit.run(x, false, 0, 100), "0");
            Kit.due("outputs", Kit.outputs(x), "0 0");
            Kit.due("objects", x.result(5), 1);
            Kit.due("steps", x.result(1), 11);
        }
    }
}
